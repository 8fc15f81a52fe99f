set_option maxHeartbeats 4000000 in
set_option maxRecDepth 100000 in
theorem t_Lands_safestOfAll (l : Launch) (hfl : l.stackTraces = false) (G : wG) (N : Nat) (this : Nat) (M : Mem) (r : Rho) : Ctr l yX0_safestOfAll (wWs yX0_safestOfAll cX0_safestOfAll 5 (some .int)) rm_Lands_safestOfAll rm_Lands_safestOfAll.cells rm_Lands_safestOfAll.slots G [.ref this] M r ((f_Lands_safestOfAll N this M).map (fun z => (.inl (some (.int z)), M, r))) := by
  refine Ctr.ofF (own := "CheekTown$Lands") (by decide +kernel) hfl rfl (Nat.le_of_ble_eq_true rfl) (fun p e s m args below meth c E hno hr hnm hw ls hl => ?_)
  obtain ⟨hx, hb, hts, hown, hml, hTT, -⟩ := id E
  have hl : lv_has ls 5 [(0, .ref this)] := hl
  obtain ⟨H, hH⟩ : ∃ H, H = s.heap := ⟨_, rfl⟩
  obtain ⟨locs, hlo⟩ : ∃ L : List Loc, L = [] := ⟨_, rfl⟩
  rw [← hH, ← hlo]
  rw [← hlo] at hw
  replace hw : w_W G M r s H locs := by rw [hH]; exact hw
  have w10 : ∀ (n : Nat) (x1 : Int32) (x2 : Int32) (x3 : Int32) (H : Heap) (locs : List Loc) (ls : Array Slot), w_W G M r s H locs → lv_has ls 5 [(0, .ref this), (1, .int x1), (2, .int x2), (3, .int x3)] → W p l e rm_Lands_safestOfAll s m args below meth c H locs 0 0 (PQ G below args s rm_Lands_safestOfAll.cells rm_Lands_safestOfAll.slots (fun z => (.inl (some (.int z)), M, r)) (f_Lands_safestOfAll_10 N this M n x1 x2 x3)) (F0 m 10 ls []) := by
    intro n
    induction n with
    | zero => intros; exact W_none
    | succ n ih =>
      intro x1 x2 x3 H locs ls hw hl
      rw [f_Lands_safestOfAll_10]
      refine lv_iload_n hx hb dX0_safestOfAll_10 rfl (lv_at hl 3 rfl) ?_
      refine lv_bipush (v := 32) hx hb dX0_safestOfAll_11 (by decide) ?_
      refine cx_icmp_ge (tgt := 40) E dX0_safestOfAll_13 (by decide) (fun _ => ?_) (fun _ => ?_)
      · refine lv_iload_n hx hb dX0_safestOfAll_40 rfl (lv_at hl 1 rfl) ?_
        exact p_iret E hw hr (Nat.le_of_ble_eq_true rfl) (Nat.le_of_ble_eq_true rfl) rfl dX0_safestOfAll_41
      · refine lv_aload_n hx hb dX0_safestOfAll_16 rfl (lv_at hl 0 rfl) ?_
        refine lv_iload_n hx hb dX0_safestOfAll_17 rfl (lv_at hl 3 rfl) ?_
        refine W_bind fun _ hck => ?_
        refine W_bind fun z2 hz => ?_
        refine w_after (cells1 := 0) (slots1 := 0) (w_runV E kV_Lands_57 kc_X0_greatestCostOf (t_Lands_greatestCostOf l hfl G N this x3 M r ((fun z => (.inl (some (.int z)), M, r)) z2) (by rw [hz]; rfl)) ⟨Nat.le_of_ble_eq_true rfl, Nat.le_of_ble_eq_true rfl⟩ hw (w_recv E hw (by decide) ⟨_, _, rfl⟩ (ck_ok hck)) rfl hl.1 rfl (Nat.le_of_ble_eq_true rfl) dX0_safestOfAll_18 ⟨Nat.le_of_ble_eq_true rfl, Nat.le_of_ble_eq_true rfl⟩) hw rfl (Nat.le_of_ble_eq_true rfl) (Nat.le_of_ble_eq_true rfl) (fun H locs hw => ?_)
        refine W.eq (g2 := F0 m 21 ls [.int z2]) rfl ?_
        have hw : w_W G M r s H locs := hw
        refine lv_istore (lv' := [(4, .int z2), (0, .ref this), (1, .int x1), (2, .int x2), (3, .int x3)]) hx hb dX0_safestOfAll_21 hl (by decide) rfl (fun ls hl => ?_)
        refine lv_iload hx hb dX0_safestOfAll_23 (lv_at hl 0 rfl) ?_
        refine lv_iload_n hx hb dX0_safestOfAll_25 rfl (lv_at hl 3 rfl) ?_
        refine cx_icmp_ge (tgt := 34) E dX0_safestOfAll_26 (by decide) (fun _ => ?_) (fun _ => ?_)
        · refine lv_iinc (v := x3 + 1) (lv' := [(3, .int (x3 + 1)), (4, .int z2), (0, .ref this), (1, .int x1), (2, .int x2)]) hx hb dX0_safestOfAll_34 hl (k := 4) rfl rfl (by decide) rfl (fun ls hl => ?_)
          refine lv_goto (tgt := 10) hx hb dX0_safestOfAll_37 (by decide) ?_
          exact ih x1 x2 (x3 + 1) _ _ _ hw (lv_sub hl [2, 3, 4, 0] rfl)
        · refine lv_iload_n hx hb dX0_safestOfAll_29 rfl (lv_at hl 4 rfl) ?_
          refine lv_istore_n (lv' := [(1, .int x3), (4, .int z2), (0, .ref this), (2, .int x2), (3, .int x3)]) hx hb dX0_safestOfAll_30 rfl hl (by decide) rfl (fun ls hl => ?_)
          refine lv_iload hx hb dX0_safestOfAll_31 (lv_at hl 1 rfl) ?_
          refine lv_istore_n (lv' := [(2, .int z2), (1, .int x3), (4, .int z2), (0, .ref this), (3, .int x3)]) hx hb dX0_safestOfAll_33 rfl hl (by decide) rfl (fun ls hl => ?_)
          refine lv_iinc (v := x3 + 1) (lv' := [(3, .int (x3 + 1)), (2, .int z2), (1, .int x3), (4, .int z2), (0, .ref this)]) hx hb dX0_safestOfAll_34 hl (k := 4) rfl rfl (by decide) rfl (fun ls hl => ?_)
          refine lv_goto (tgt := 10) hx hb dX0_safestOfAll_37 (by decide) ?_
          exact ih x3 z2 (x3 + 1) _ _ _ hw (lv_sub hl [4, 2, 1, 0] rfl)
  unfold f_Lands_safestOfAll
  refine lv_iconst (v := 0) hx hb dX0_safestOfAll_0 (by decide) ?_
  refine lv_istore_n (lv' := [(1, .int 0), (0, .ref this)]) hx hb dX0_safestOfAll_1 rfl hl (by decide) rfl (fun ls hl => ?_)
  refine lv_aload_n hx hb dX0_safestOfAll_2 rfl (lv_at hl 1 rfl) ?_
  refine lv_iconst (v := 0) hx hb dX0_safestOfAll_3 (by decide) ?_
  refine W_bind fun _ hck => ?_
  refine W_bind fun z1 hz => ?_
  refine w_after (cells1 := 0) (slots1 := 0) (w_runV E kV_Lands_57 kc_X0_greatestCostOf (t_Lands_greatestCostOf l hfl G N this 0 M r ((fun z => (.inl (some (.int z)), M, r)) z1) (by rw [hz]; rfl)) ⟨Nat.le_of_ble_eq_true rfl, Nat.le_of_ble_eq_true rfl⟩ hw (w_recv E hw (by decide) ⟨_, _, rfl⟩ (ck_ok hck)) rfl hl.1 rfl (Nat.le_of_ble_eq_true rfl) dX0_safestOfAll_4 ⟨Nat.le_of_ble_eq_true rfl, Nat.le_of_ble_eq_true rfl⟩) hw rfl (Nat.le_of_ble_eq_true rfl) (Nat.le_of_ble_eq_true rfl) (fun H locs hw => ?_)
  refine W.eq (g2 := F0 m 7 ls [.int z1]) rfl ?_
  have hw : w_W G M r s H locs := hw
  refine lv_istore_n (lv' := [(2, .int z1), (1, .int 0), (0, .ref this)]) hx hb dX0_safestOfAll_7 rfl hl (by decide) rfl (fun ls hl => ?_)
  refine lv_iconst (v := 1) hx hb dX0_safestOfAll_8 (by decide) ?_
  refine lv_istore_n (lv' := [(3, .int 1), (2, .int z1), (1, .int 0), (0, .ref this)]) hx hb dX0_safestOfAll_9 rfl hl (by decide) rfl (fun ls hl => ?_)
  exact w10  N 0 z1 1 _ _ _ hw (lv_sub hl [3, 2, 1, 0] rfl)
set_option maxHeartbeats 4000000 in
set_option maxRecDepth 100000 in
theorem t_CT_safest (l : Launch) (hfl : l.stackTraces = false) (G : wG) (N : Nat) (this : Nat) (a0 : Int32) (M : Mem) (r : Rho) : Ctr l yX11_safest (wWs yX11_safest cX11_safest 3 (some .int)) rm_CT_safest rm_CT_safest.cells rm_CT_safest.slots G [.ref this, .int a0] M r ((f_CT_safest N this a0 M).map (fun z => (.inl (some (.int z)), M, r))) := by
  refine Ctr.ofF (own := "CheekTown") (by decide +kernel) hfl rfl (Nat.le_of_ble_eq_true rfl) (fun p e s m args below meth c E hno hr hnm hw ls hl => ?_)
  obtain ⟨hx, hb, hts, hown, hml, hTT, -⟩ := id E
  have hl : lv_has ls 3 [(0, .ref this), (1, .int a0)] := hl
  obtain ⟨H, hH⟩ : ∃ H, H = s.heap := ⟨_, rfl⟩
  obtain ⟨locs, hlo⟩ : ∃ L : List Loc, L = [] := ⟨_, rfl⟩
  rw [← hH, ← hlo]
  rw [← hlo] at hw
  replace hw : w_W G M r s H locs := by rw [hH]; exact hw
  unfold f_CT_safest
  refine lv_aload_n hx hb dX11_safest_0 rfl (lv_at hl 0 rfl) ?_
  refine gx_getR E hw kF_CT_20_10 (by decide) dX11_safest_1 (fun v1 _ => ?_)
  refine gx_getR E hw kF_CT_116_7 (by decide) dX11_safest_4 (fun v2 _ => ?_)
  refine W_bind fun _ hck => ?_
  refine W_bind fun z3 hz => ?_
  refine w_after (cells1 := 0) (slots1 := 0) (w_runV E kV_CT_261 kc_X0_safestOfAll (t_Lands_safestOfAll l hfl G N v2 M r ((fun z => (.inl (some (.int z)), M, r)) z3) (by rw [hz]; rfl)) ⟨Nat.le_of_ble_eq_true rfl, Nat.le_of_ble_eq_true rfl⟩ hw (w_recv E hw (by decide) ⟨_, _, rfl⟩ (ck_ok hck)) rfl hl.1 rfl (Nat.le_of_ble_eq_true rfl) dX11_safest_7 ⟨Nat.le_of_ble_eq_true rfl, Nat.le_of_ble_eq_true rfl⟩) hw rfl (Nat.le_of_ble_eq_true rfl) (Nat.le_of_ble_eq_true rfl) (fun H locs hw => ?_)
  refine W.eq (g2 := F0 m 10 ls [.int z3]) rfl ?_
  have hw : w_W G M r s H locs := hw
  refine lv_istore_n (lv' := [(2, .int z3), (0, .ref this), (1, .int a0)]) hx hb dX11_safest_10 rfl hl (by decide) rfl (fun ls hl => ?_)
  refine lv_iload_n hx hb dX11_safest_11 rfl (lv_at hl 2 rfl) ?_
  refine cx_if_eq (tgt := 29) E dX11_safest_12 (by decide) (fun _ => ?_) (fun _ => ?_)
  · refine lv_iload_n hx hb dX11_safest_29 rfl (lv_at hl 0 rfl) ?_
    exact p_iret E hw hr (Nat.le_of_ble_eq_true rfl) (Nat.le_of_ble_eq_true rfl) rfl dX11_safest_30
  · refine lv_aload_n hx hb dX11_safest_15 rfl (lv_at hl 1 rfl) ?_
    refine gx_getR E hw kF_CT_20_10 (by decide) dX11_safest_16 (fun v4 _ => ?_)
    refine gx_getR E hw kF_CT_116_7 (by decide) dX11_safest_19 (fun v5 _ => ?_)
    refine lv_iload_n hx hb dX11_safest_22 rfl (lv_at hl 0 rfl) ?_
    refine W_bind fun _ hck => ?_
    refine W_bind fun z6 hz => ?_
    refine w_after (cells1 := 0) (slots1 := 0) (w_runV E kV_CT_264 kc_X0_greatestCostOf (t_Lands_greatestCostOf l hfl G N v5 z3 M r ((fun z => (.inl (some (.int z)), M, r)) z6) (by rw [hz]; rfl)) ⟨Nat.le_of_ble_eq_true rfl, Nat.le_of_ble_eq_true rfl⟩ hw (w_recv E hw (by decide) ⟨_, _, rfl⟩ (ck_ok hck)) rfl hl.1 rfl (Nat.le_of_ble_eq_true rfl) dX11_safest_23 ⟨Nat.le_of_ble_eq_true rfl, Nat.le_of_ble_eq_true rfl⟩) hw rfl (Nat.le_of_ble_eq_true rfl) (Nat.le_of_ble_eq_true rfl) (fun H locs hw => ?_)
    refine W.eq (g2 := F0 m 26 ls [.int z6]) rfl ?_
    have hw : w_W G M r s H locs := hw
    refine lv_goto (tgt := 30) hx hb dX11_safest_26 (by decide) ?_
    exact p_iret E hw hr (Nat.le_of_ble_eq_true rfl) (Nat.le_of_ble_eq_true rfl) rfl dX11_safest_30
set_option maxHeartbeats 4000000 in
set_option maxRecDepth 100000 in
theorem t_Lands_expectedOf (l : Launch) (hfl : l.stackTraces = false) (G : wG) (N : Nat) (this : Nat) (a0 : Int32) (a1 : Int32) (M : Mem) (r : Rho) : Ctr l yX0_expectedOf (wWs yX0_expectedOf cX0_expectedOf 5 (some .int)) rm_Lands_expectedOf rm_Lands_expectedOf.cells rm_Lands_expectedOf.slots G [.ref this, .int a0, .int a1] M r ((f_Lands_expectedOf N this a0 a1 M).map (fun z => (.inl (some (.int z)), M, r))) := by
  refine Ctr.ofF (own := "CheekTown$Lands") (by decide +kernel) hfl rfl (Nat.le_of_ble_eq_true rfl) (fun p e s m args below meth c E hno hr hnm hw ls hl => ?_)
  obtain ⟨hx, hb, hts, hown, hml, hTT, -⟩ := id E
  have hl : lv_has ls 5 [(0, .ref this), (1, .int a0), (2, .int a1)] := hl
  obtain ⟨H, hH⟩ : ∃ H, H = s.heap := ⟨_, rfl⟩
  obtain ⟨locs, hlo⟩ : ∃ L : List Loc, L = [] := ⟨_, rfl⟩
  rw [← hH, ← hlo]
  rw [← hlo] at hw
  replace hw : w_W G M r s H locs := by rw [hH]; exact hw
  have w5 : ∀ (n : Nat) (x3 : Int32) (x4 : Int32) (H : Heap) (locs : List Loc) (ls : Array Slot), w_W G M r s H locs → lv_has ls 5 [(0, .ref this), (1, .int a0), (2, .int a1), (3, .int x3), (4, .int x4)] → W p l e rm_Lands_expectedOf s m args below meth c H locs 0 0 (PQ G below args s rm_Lands_expectedOf.cells rm_Lands_expectedOf.slots (fun z => (.inl (some (.int z)), M, r)) (f_Lands_expectedOf_5 N this a0 a1 M n x3 x4)) (F0 m 5 ls []) := by
    intro n
    induction n with
    | zero => intros; exact W_none
    | succ n ih =>
      intro x3 x4 H locs ls hw hl
      rw [f_Lands_expectedOf_5]
      refine lv_iload hx hb dX0_expectedOf_5 (lv_at hl 4 rfl) ?_
      refine lv_aload_n hx hb dX0_expectedOf_7 rfl (lv_at hl 0 rfl) ?_
      refine gx_getI E hw kF_Lands_36_0 (by decide) dX0_expectedOf_8 (fun v1 _ => ?_)
      refine cx_icmp_ge (tgt := 64) E dX0_expectedOf_11 (by decide) (fun _ => ?_) (fun _ => ?_)
      · refine lv_iload_n hx hb dX0_expectedOf_64 rfl (lv_at hl 3 rfl) ?_
        exact p_iret E hw hr (Nat.le_of_ble_eq_true rfl) (Nat.le_of_ble_eq_true rfl) rfl dX0_expectedOf_65
      · refine lv_iload hx hb dX0_expectedOf_14 (lv_at hl 4 rfl) ?_
        refine lv_bipush (v := 24) hx hb dX0_expectedOf_16 (by decide) ?_
        refine cx_icmp_ge (tgt := 64) E dX0_expectedOf_18 (by decide) (fun _ => ?_) (fun _ => ?_)
        · refine lv_iload_n hx hb dX0_expectedOf_64 rfl (lv_at hl 3 rfl) ?_
          exact p_iret E hw hr (Nat.le_of_ble_eq_true rfl) (Nat.le_of_ble_eq_true rfl) rfl dX0_expectedOf_65
        · refine lv_aload_n hx hb dX0_expectedOf_21 rfl (lv_at hl 0 rfl) ?_
          refine gx_getR E hw kF_Lands_18_0 (by decide) dX0_expectedOf_22 (fun v2 _ => ?_)
          refine lv_iload hx hb dX0_expectedOf_25 (lv_at hl 4 rfl) ?_
          refine gx_iald E hw dX0_expectedOf_27 (fun v3 _ => ?_)
          refine lv_iload_n hx hb dX0_expectedOf_28 rfl (lv_at hl 1 rfl) ?_
          refine cx_icmp_ne (tgt := 58) E dX0_expectedOf_29 (by decide) (fun _ => ?_) (fun _ => ?_)
          · refine lv_iinc (v := x4 + 1) (lv' := [(4, .int (x4 + 1)), (0, .ref this), (1, .int a0), (2, .int a1), (3, .int x3)]) hx hb dX0_expectedOf_58 hl (k := 4) rfl rfl (by decide) rfl (fun ls hl => ?_)
            refine lv_goto (tgt := 5) hx hb dX0_expectedOf_61 (by decide) ?_
            exact ih x3 (x4 + 1) _ _ _ hw (lv_sub hl [1, 2, 3, 4, 0] rfl)
          · refine lv_iload_n hx hb dX0_expectedOf_32 rfl (lv_at hl 3 rfl) ?_
            refine lv_aload_n hx hb dX0_expectedOf_33 rfl (lv_at hl 0 rfl) ?_
            refine gx_getR E hw kF_Lands_25_0 (by decide) dX0_expectedOf_34 (fun v4 _ => ?_)
            refine lv_iload hx hb dX0_expectedOf_37 (lv_at hl 4 rfl) ?_
            refine gx_iald E hw dX0_expectedOf_39 (fun v5 _ => ?_)
            refine lv_aload_n hx hb dX0_expectedOf_40 rfl (lv_at hl 0 rfl) ?_
            refine gx_getR E hw kF_Lands_12_0 (by decide) dX0_expectedOf_41 (fun v6 _ => ?_)
            refine lv_iload_n hx hb dX0_expectedOf_44 rfl (lv_at hl 2 rfl) ?_
            refine lv_aload_n hx hb dX0_expectedOf_45 rfl (lv_at hl 0 rfl) ?_
            refine gx_getR E hw kF_Lands_22_0 (by decide) dX0_expectedOf_46 (fun v7 _ => ?_)
            refine lv_iload hx hb dX0_expectedOf_49 (lv_at hl 4 rfl) ?_
            refine gx_iald E hw dX0_expectedOf_51 (fun v8 _ => ?_)
            refine W_bind fun _ hck => ?_
            refine W_bind fun z9 hz => ?_
            refine w_after (cells1 := 0) (slots1 := 0) (w_runV E kV_Lands_45 kc_X4_costOf (t_Manners_costOf l hfl G v6 a1 v8 M r ((fun z => (.inl (some (.int z)), M, r)) z9) (by rw [hz]; rfl)) ⟨Nat.le_of_ble_eq_true rfl, Nat.le_of_ble_eq_true rfl⟩ hw (w_recv E hw (by decide) ⟨_, _, rfl⟩ (ck_ok hck)) rfl hl.1 rfl (Nat.le_of_ble_eq_true rfl) dX0_expectedOf_52 ⟨Nat.le_of_ble_eq_true rfl, Nat.le_of_ble_eq_true rfl⟩) hw rfl (Nat.le_of_ble_eq_true rfl) (Nat.le_of_ble_eq_true rfl) (fun H locs hw => ?_)
            refine W.eq (g2 := F0 m 55 ls [.int z9, .int v5, .int x3]) rfl ?_
            have hw : w_W G M r s H locs := hw
            refine lv_imul hx hb dX0_expectedOf_55 ?_
            refine lv_iadd hx hb dX0_expectedOf_56 ?_
            refine lv_istore_n (lv' := [(3, .int (x3 + (v5 * z9))), (0, .ref this), (1, .int a0), (2, .int a1), (4, .int x4)]) hx hb dX0_expectedOf_57 rfl hl (by decide) rfl (fun ls hl => ?_)
            refine lv_iinc (v := x4 + 1) (lv' := [(4, .int (x4 + 1)), (3, .int (x3 + (v5 * z9))), (0, .ref this), (1, .int a0), (2, .int a1)]) hx hb dX0_expectedOf_58 hl (k := 4) rfl rfl (by decide) rfl (fun ls hl => ?_)
            refine lv_goto (tgt := 5) hx hb dX0_expectedOf_61 (by decide) ?_
            exact ih (x3 + (v5 * z9)) (x4 + 1) _ _ _ hw (lv_sub hl [2, 3, 4, 1, 0] rfl)
  unfold f_Lands_expectedOf
  refine lv_iconst (v := 0) hx hb dX0_expectedOf_0 (by decide) ?_
  refine lv_istore_n (lv' := [(3, .int 0), (0, .ref this), (1, .int a0), (2, .int a1)]) hx hb dX0_expectedOf_1 rfl hl (by decide) rfl (fun ls hl => ?_)
  refine lv_iconst (v := 0) hx hb dX0_expectedOf_2 (by decide) ?_
  refine lv_istore (lv' := [(4, .int 0), (3, .int 0), (0, .ref this), (1, .int a0), (2, .int a1)]) hx hb dX0_expectedOf_3 hl (by decide) rfl (fun ls hl => ?_)
  exact w5  N 0 0 _ _ _ hw (lv_sub hl [2, 3, 4, 1, 0] rfl)
set_option maxHeartbeats 4000000 in
set_option maxRecDepth 100000 in
theorem t_Town_expectedByAll (l : Launch) (hfl : l.stackTraces = false) (G : wG) (N : Nat) (this : Nat) (a0 : Int32) (M : Mem) (r : Rho) : Ctr l yX8_expectedByAll (wWs yX8_expectedByAll cX8_expectedByAll 4 (some .int)) rm_Town_expectedByAll rm_Town_expectedByAll.cells rm_Town_expectedByAll.slots G [.ref this, .int a0] M r ((f_Town_expectedByAll N this a0 M).map (fun z => (.inl (some (.int z)), M, r))) := by
  refine Ctr.ofF (own := "CheekTown$Town") (by decide +kernel) hfl rfl (Nat.le_of_ble_eq_true rfl) (fun p e s m args below meth c E hno hr hnm hw ls hl => ?_)
  obtain ⟨hx, hb, hts, hown, hml, hTT, -⟩ := id E
  have hl : lv_has ls 4 [(0, .ref this), (1, .int a0)] := hl
  obtain ⟨H, hH⟩ : ∃ H, H = s.heap := ⟨_, rfl⟩
  obtain ⟨locs, hlo⟩ : ∃ L : List Loc, L = [] := ⟨_, rfl⟩
  rw [← hH, ← hlo]
  rw [← hlo] at hw
  replace hw : w_W G M r s H locs := by rw [hH]; exact hw
  have w4 : ∀ (n : Nat) (x2 : Int32) (x3 : Int32) (H : Heap) (locs : List Loc) (ls : Array Slot), w_W G M r s H locs → lv_has ls 4 [(0, .ref this), (1, .int a0), (2, .int x2), (3, .int x3)] → W p l e rm_Town_expectedByAll s m args below meth c H locs 0 0 (PQ G below args s rm_Town_expectedByAll.cells rm_Town_expectedByAll.slots (fun z => (.inl (some (.int z)), M, r)) (f_Town_expectedByAll_4 N this a0 M n x2 x3)) (F0 m 4 ls []) := by
    intro n
    induction n with
    | zero => intros; exact W_none
    | succ n ih =>
      intro x2 x3 H locs ls hw hl
      rw [f_Town_expectedByAll_4]
      refine lv_iload_n hx hb dX8_expectedByAll_4 rfl (lv_at hl 3 rfl) ?_
      refine lv_aload_n hx hb dX8_expectedByAll_5 rfl (lv_at hl 0 rfl) ?_
      refine gx_getI E hw kF_Town_50_7 (by decide) dX8_expectedByAll_6 (fun v1 _ => ?_)
      refine cx_icmp_ge (tgt := 38) E dX8_expectedByAll_9 (by decide) (fun _ => ?_) (fun _ => ?_)
      · refine lv_iload_n hx hb dX8_expectedByAll_38 rfl (lv_at hl 2 rfl) ?_
        exact p_iret E hw hr (Nat.le_of_ble_eq_true rfl) (Nat.le_of_ble_eq_true rfl) rfl dX8_expectedByAll_39
      · refine lv_iload_n hx hb dX8_expectedByAll_12 rfl (lv_at hl 2 rfl) ?_
        refine lv_aload_n hx hb dX8_expectedByAll_13 rfl (lv_at hl 0 rfl) ?_
        refine gx_getR E hw kF_Town_12_7 (by decide) dX8_expectedByAll_14 (fun v2 _ => ?_)
        refine lv_aload_n hx hb dX8_expectedByAll_17 rfl (lv_at hl 0 rfl) ?_
        refine gx_getR E hw kF_Town_20_7 (by decide) dX8_expectedByAll_18 (fun v3 _ => ?_)
        refine lv_iload_n hx hb dX8_expectedByAll_21 rfl (lv_at hl 3 rfl) ?_
        refine gx_aald E hw (by decide) dX8_expectedByAll_22 (fun v4 _ => ?_)
        refine gx_getI E hw kF_Town_87_5 (by decide) dX8_expectedByAll_23 (fun v5 _ => ?_)
        refine lv_iload_n hx hb dX8_expectedByAll_26 rfl (lv_at hl 1 rfl) ?_
        refine W_bind fun _ hck => ?_
        refine W_bind fun z6 hz => ?_
        refine w_after (cells1 := 0) (slots1 := 0) (w_runV E kV_Town_175 kc_X0_expectedOf (t_Lands_expectedOf l hfl G N v2 v5 a0 M r ((fun z => (.inl (some (.int z)), M, r)) z6) (by rw [hz]; rfl)) ⟨Nat.le_of_ble_eq_true rfl, Nat.le_of_ble_eq_true rfl⟩ hw (w_recv E hw (by decide) ⟨_, _, rfl⟩ (ck_ok hck)) rfl hl.1 rfl (Nat.le_of_ble_eq_true rfl) dX8_expectedByAll_27 ⟨Nat.le_of_ble_eq_true rfl, Nat.le_of_ble_eq_true rfl⟩) hw rfl (Nat.le_of_ble_eq_true rfl) (Nat.le_of_ble_eq_true rfl) (fun H locs hw => ?_)
        refine W.eq (g2 := F0 m 30 ls [.int z6, .int x2]) rfl ?_
        have hw : w_W G M r s H locs := hw
        refine lv_iadd hx hb dX8_expectedByAll_30 ?_
        refine lv_istore_n (lv' := [(2, .int (x2 + z6)), (0, .ref this), (1, .int a0), (3, .int x3)]) hx hb dX8_expectedByAll_31 rfl hl (by decide) rfl (fun ls hl => ?_)
        refine lv_iinc (v := x3 + 1) (lv' := [(3, .int (x3 + 1)), (2, .int (x2 + z6)), (0, .ref this), (1, .int a0)]) hx hb dX8_expectedByAll_32 hl (k := 3) rfl rfl (by decide) rfl (fun ls hl => ?_)
        refine lv_goto (tgt := 4) hx hb dX8_expectedByAll_35 (by decide) ?_
        exact ih (x2 + z6) (x3 + 1) _ _ _ hw (lv_sub hl [2, 3, 1, 0] rfl)
  unfold f_Town_expectedByAll
  refine lv_iconst (v := 0) hx hb dX8_expectedByAll_0 (by decide) ?_
  refine lv_istore_n (lv' := [(2, .int 0), (0, .ref this), (1, .int a0)]) hx hb dX8_expectedByAll_1 rfl hl (by decide) rfl (fun ls hl => ?_)
  refine lv_iconst (v := 0) hx hb dX8_expectedByAll_2 (by decide) ?_
  refine lv_istore_n (lv' := [(3, .int 0), (2, .int 0), (0, .ref this), (1, .int a0)]) hx hb dX8_expectedByAll_3 rfl hl (by decide) rfl (fun ls hl => ?_)
  exact w4  N 0 0 _ _ _ hw (lv_sub hl [2, 3, 1, 0] rfl)
set_option maxHeartbeats 4000000 in
set_option maxRecDepth 100000 in
theorem t_Math_min (l : Launch) (hfl : l.stackTraces = false) (G : wG) (a0 : Int32) (a1 : Int32) (M : Mem) (r : Rho) : Ctr l yJ9_min_7cf53 (wWs yJ9_min_7cf53 cJ9_min_7cf53 2 (some .int)) rm_Math_min rm_Math_min.cells rm_Math_min.slots G [.int a0, .int a1] M r ((f_Math_min a0 a1).map (fun z => (.inl (some (.int z)), M, r))) := by
  refine Ctr.ofF (own := "java/lang/Math") (by decide +kernel) hfl rfl (Nat.le_of_ble_eq_true rfl) (fun p e s m args below meth c E hno hr hnm hw ls hl => ?_)
  obtain ⟨hx, hb, hts, hown, hml, hTT, -⟩ := id E
  have hl : lv_has ls 2 [(0, .int a0), (1, .int a1)] := hl
  obtain ⟨H, hH⟩ : ∃ H, H = s.heap := ⟨_, rfl⟩
  obtain ⟨locs, hlo⟩ : ∃ L : List Loc, L = [] := ⟨_, rfl⟩
  rw [← hH, ← hlo]
  rw [← hlo] at hw
  replace hw : w_W G M r s H locs := by rw [hH]; exact hw
  unfold f_Math_min
  refine lv_iload_n hx hb dJ9_min_7cf53_0 rfl (lv_at hl 0 rfl) ?_
  refine lv_iload_n hx hb dJ9_min_7cf53_1 rfl (lv_at hl 1 rfl) ?_
  refine cx_icmp_gt (tgt := 9) E dJ9_min_7cf53_2 (by decide) (fun _ => ?_) (fun _ => ?_)
  · refine lv_iload_n hx hb dJ9_min_7cf53_9 rfl (lv_at hl 1 rfl) ?_
    exact p_iret E hw hr (Nat.le_of_ble_eq_true rfl) (Nat.le_of_ble_eq_true rfl) rfl dJ9_min_7cf53_10
  · refine lv_iload_n hx hb dJ9_min_7cf53_5 rfl (lv_at hl 0 rfl) ?_
    refine lv_goto (tgt := 10) hx hb dJ9_min_7cf53_6 (by decide) ?_
    exact p_iret E hw hr (Nat.le_of_ble_eq_true rfl) (Nat.le_of_ble_eq_true rfl) rfl dJ9_min_7cf53_10
set_option maxHeartbeats 4000000 in
set_option maxRecDepth 100000 in
theorem t_Lands_bestIn (l : Launch) (hfl : l.stackTraces = false) (G : wG) (N : Nat) (this : Nat) (a0 : Int32) (M : Mem) (r : Rho) : Ctr l yX0_bestIn (wWs yX0_bestIn cX0_bestIn 6 (some .int)) rm_Lands_bestIn rm_Lands_bestIn.cells rm_Lands_bestIn.slots G [.ref this, .int a0] M r ((f_Lands_bestIn N this a0 M).map (fun z => (.inl (some (.int z)), M, r))) := by
  refine Ctr.ofF (own := "CheekTown$Lands") (by decide +kernel) hfl rfl (Nat.le_of_ble_eq_true rfl) (fun p e s m args below meth c E hno hr hnm hw ls hl => ?_)
  obtain ⟨hx, hb, hts, hown, hml, hTT, -⟩ := id E
  have hl : lv_has ls 6 [(0, .ref this), (1, .int a0)] := hl
  obtain ⟨H, hH⟩ : ∃ H, H = s.heap := ⟨_, rfl⟩
  obtain ⟨locs, hlo⟩ : ∃ L : List Loc, L = [] := ⟨_, rfl⟩
  rw [← hH, ← hlo]
  rw [← hlo] at hw
  replace hw : w_W G M r s H locs := by rw [hH]; exact hw
  have w12 : ∀ (n : Nat) (x2 : Int32) (x3 : Int32) (x4 : Int32) (H : Heap) (locs : List Loc) (ls : Array Slot), w_W G M r s H locs → lv_has ls 6 [(0, .ref this), (1, .int a0), (2, .int x2), (3, .int x3), (4, .int x4)] → W p l e rm_Lands_bestIn s m args below meth c H locs 0 0 (PQ G below args s rm_Lands_bestIn.cells rm_Lands_bestIn.slots (fun z => (.inl (some (.int z)), M, r)) (f_Lands_bestIn_12 N this a0 M n x2 x3 x4)) (F0 m 12 ls []) := by
    intro n
    induction n with
    | zero => intros; exact W_none
    | succ n ih =>
      intro x2 x3 x4 H locs ls hw hl
      rw [f_Lands_bestIn_12]
      refine lv_iload hx hb dX0_bestIn_12 (lv_at hl 4 rfl) ?_
      refine lv_bipush (v := 32) hx hb dX0_bestIn_14 (by decide) ?_
      refine cx_icmp_ge (tgt := 46) E dX0_bestIn_16 (by decide) (fun _ => ?_) (fun _ => ?_)
      · refine lv_iload_n hx hb dX0_bestIn_46 rfl (lv_at hl 2 rfl) ?_
        exact p_iret E hw hr (Nat.le_of_ble_eq_true rfl) (Nat.le_of_ble_eq_true rfl) rfl dX0_bestIn_47
      · refine lv_aload_n hx hb dX0_bestIn_19 rfl (lv_at hl 0 rfl) ?_
        refine lv_iload_n hx hb dX0_bestIn_20 rfl (lv_at hl 1 rfl) ?_
        refine lv_iload hx hb dX0_bestIn_21 (lv_at hl 4 rfl) ?_
        refine W_bind fun _ hck => ?_
        refine W_bind fun z2 hz => ?_
        refine w_after (cells1 := 0) (slots1 := 0) (w_runV E kV_Lands_49 kc_X0_expectedOf (t_Lands_expectedOf l hfl G N this a0 x4 M r ((fun z => (.inl (some (.int z)), M, r)) z2) (by rw [hz]; rfl)) ⟨Nat.le_of_ble_eq_true rfl, Nat.le_of_ble_eq_true rfl⟩ hw (w_recv E hw (by decide) ⟨_, _, rfl⟩ (ck_ok hck)) rfl hl.1 rfl (Nat.le_of_ble_eq_true rfl) dX0_bestIn_23 ⟨Nat.le_of_ble_eq_true rfl, Nat.le_of_ble_eq_true rfl⟩) hw rfl (Nat.le_of_ble_eq_true rfl) (Nat.le_of_ble_eq_true rfl) (fun H locs hw => ?_)
        refine W.eq (g2 := F0 m 26 ls [.int z2]) rfl ?_
        have hw : w_W G M r s H locs := hw
        refine lv_istore (lv' := [(5, .int z2), (0, .ref this), (1, .int a0), (2, .int x2), (3, .int x3), (4, .int x4)]) hx hb dX0_bestIn_26 hl (by decide) rfl (fun ls hl => ?_)
        refine lv_iload hx hb dX0_bestIn_28 (lv_at hl 0 rfl) ?_
        refine lv_iload_n hx hb dX0_bestIn_30 rfl (lv_at hl 4 rfl) ?_
        refine cx_icmp_ge (tgt := 40) E dX0_bestIn_31 (by decide) (fun _ => ?_) (fun _ => ?_)
        · refine lv_iinc (v := x4 + 1) (lv' := [(4, .int (x4 + 1)), (5, .int z2), (0, .ref this), (1, .int a0), (2, .int x2), (3, .int x3)]) hx hb dX0_bestIn_40 hl (k := 5) rfl rfl (by decide) rfl (fun ls hl => ?_)
          refine lv_goto (tgt := 12) hx hb dX0_bestIn_43 (by decide) ?_
          exact ih x2 x3 (x4 + 1) _ _ _ hw (lv_sub hl [2, 3, 4, 5, 0] rfl)
        · refine lv_iload hx hb dX0_bestIn_34 (lv_at hl 5 rfl) ?_
          refine lv_istore_n (lv' := [(2, .int x4), (5, .int z2), (0, .ref this), (1, .int a0), (3, .int x3), (4, .int x4)]) hx hb dX0_bestIn_36 rfl hl (by decide) rfl (fun ls hl => ?_)
          refine lv_iload hx hb dX0_bestIn_37 (lv_at hl 1 rfl) ?_
          refine lv_istore_n (lv' := [(3, .int z2), (2, .int x4), (5, .int z2), (0, .ref this), (1, .int a0), (4, .int x4)]) hx hb dX0_bestIn_39 rfl hl (by decide) rfl (fun ls hl => ?_)
          refine lv_iinc (v := x4 + 1) (lv' := [(4, .int (x4 + 1)), (3, .int z2), (2, .int x4), (5, .int z2), (0, .ref this), (1, .int a0)]) hx hb dX0_bestIn_40 hl (k := 5) rfl rfl (by decide) rfl (fun ls hl => ?_)
          refine lv_goto (tgt := 12) hx hb dX0_bestIn_43 (by decide) ?_
          exact ih x4 z2 (x4 + 1) _ _ _ hw (lv_sub hl [4, 5, 2, 1, 0] rfl)
  unfold f_Lands_bestIn
  refine lv_iconst (v := 0) hx hb dX0_bestIn_0 (by decide) ?_
  refine lv_istore_n (lv' := [(2, .int 0), (0, .ref this), (1, .int a0)]) hx hb dX0_bestIn_1 rfl hl (by decide) rfl (fun ls hl => ?_)
  refine lv_aload_n hx hb dX0_bestIn_2 rfl (lv_at hl 1 rfl) ?_
  refine lv_iload_n hx hb dX0_bestIn_3 rfl (lv_at hl 2 rfl) ?_
  refine lv_iconst (v := 0) hx hb dX0_bestIn_4 (by decide) ?_
  refine W_bind fun _ hck => ?_
  refine W_bind fun z1 hz => ?_
  refine w_after (cells1 := 0) (slots1 := 0) (w_runV E kV_Lands_49 kc_X0_expectedOf (t_Lands_expectedOf l hfl G N this a0 0 M r ((fun z => (.inl (some (.int z)), M, r)) z1) (by rw [hz]; rfl)) ⟨Nat.le_of_ble_eq_true rfl, Nat.le_of_ble_eq_true rfl⟩ hw (w_recv E hw (by decide) ⟨_, _, rfl⟩ (ck_ok hck)) rfl hl.1 rfl (Nat.le_of_ble_eq_true rfl) dX0_bestIn_5 ⟨Nat.le_of_ble_eq_true rfl, Nat.le_of_ble_eq_true rfl⟩) hw rfl (Nat.le_of_ble_eq_true rfl) (Nat.le_of_ble_eq_true rfl) (fun H locs hw => ?_)
  refine W.eq (g2 := F0 m 8 ls [.int z1]) rfl ?_
  have hw : w_W G M r s H locs := hw
  refine lv_istore_n (lv' := [(3, .int z1), (2, .int 0), (0, .ref this), (1, .int a0)]) hx hb dX0_bestIn_8 rfl hl (by decide) rfl (fun ls hl => ?_)
  refine lv_iconst (v := 1) hx hb dX0_bestIn_9 (by decide) ?_
  refine lv_istore (lv' := [(4, .int 1), (3, .int z1), (2, .int 0), (0, .ref this), (1, .int a0)]) hx hb dX0_bestIn_10 hl (by decide) rfl (fun ls hl => ?_)
  exact w12  N 0 z1 1 _ _ _ hw (lv_sub hl [3, 4, 2, 1, 0] rfl)
set_option maxHeartbeats 4000000 in
set_option maxRecDepth 100000 in
theorem t_CT_worth (l : Launch) (hfl : l.stackTraces = false) (G : wG) (N : Nat) (this : Nat) (M : Mem) (r : Rho) : Ctr l yX11_worth (wWs yX11_worth cX11_worth 5 (some .int)) rm_CT_worth rm_CT_worth.cells rm_CT_worth.slots G [.ref this] M r ((f_CT_worth N this M).map (fun z => (.inl (some (.int z)), M, r))) := by
  refine Ctr.ofF (own := "CheekTown") (by decide +kernel) hfl rfl (Nat.le_of_ble_eq_true rfl) (fun p e s m args below meth c E hno hr hnm hw ls hl => ?_)
  obtain ⟨hx, hb, hts, hown, hml, hTT, -⟩ := id E
  have hl : lv_has ls 5 [(0, .ref this)] := hl
  obtain ⟨H, hH⟩ : ∃ H, H = s.heap := ⟨_, rfl⟩
  obtain ⟨locs, hlo⟩ : ∃ L : List Loc, L = [] := ⟨_, rfl⟩
  rw [← hH, ← hlo]
  rw [← hlo] at hw
  replace hw : w_W G M r s H locs := by rw [hH]; exact hw
  have w35 : ∀ (n : Nat) (x1 : Int32) (x2 : Int32) (x3 : Int32) (H : Heap) (locs : List Loc) (ls : Array Slot), w_W G M r s H locs → lv_has ls 5 [(0, .ref this), (1, .int x1), (2, .int x2), (3, .int x3)] → W p l e rm_CT_worth s m args below meth c H locs 0 0 (PQ G below args s rm_CT_worth.cells rm_CT_worth.slots (fun z => (.inl (some (.int z)), M, r)) (f_CT_worth_35 N this M n x1 x2 x3)) (F0 m 35 ls []) := by
    intro n
    induction n with
    | zero => intros; exact W_none
    | succ n ih =>
      intro x1 x2 x3 H locs ls hw hl
      rw [f_CT_worth_35]
      refine lv_iload_n hx hb dX11_worth_35 rfl (lv_at hl 3 rfl) ?_
      refine lv_aload_n hx hb dX11_worth_36 rfl (lv_at hl 0 rfl) ?_
      refine gx_getR E hw kF_CT_20_10 (by decide) dX11_worth_37 (fun v4 _ => ?_)
      refine gx_getI E hw kF_CT_127_7 (by decide) dX11_worth_40 (fun v5 _ => ?_)
      refine cx_icmp_ge (tgt := 93) E dX11_worth_43 (by decide) (fun _ => ?_) (fun _ => ?_)
      · refine lv_iload_n hx hb dX11_worth_93 rfl (lv_at hl 1 rfl) ?_
        refine lv_iload_n hx hb dX11_worth_94 rfl (lv_at hl 2 rfl) ?_
        refine lv_isub hx hb dX11_worth_95 ?_
        exact p_iret E hw hr (Nat.le_of_ble_eq_true rfl) (Nat.le_of_ble_eq_true rfl) rfl dX11_worth_96
      · refine lv_aload_n hx hb dX11_worth_46 rfl (lv_at hl 0 rfl) ?_
        refine gx_getR E hw kF_CT_20_10 (by decide) dX11_worth_47 (fun v6 _ => ?_)
        refine gx_getR E hw kF_CT_172_7 (by decide) dX11_worth_50 (fun v7 _ => ?_)
        refine lv_iload_n hx hb dX11_worth_53 rfl (lv_at hl 3 rfl) ?_
        refine gx_aald E hw (by decide) dX11_worth_54 (fun v8 _ => ?_)
        refine gx_getI E hw kF_CT_176_5 (by decide) dX11_worth_55 (fun v9 _ => ?_)
        refine lv_istore (lv' := [(4, .int v9), (0, .ref this), (1, .int x1), (2, .int x2), (3, .int x3)]) hx hb dX11_worth_58 hl (by decide) rfl (fun ls hl => ?_)
        refine lv_iload_n hx hb dX11_worth_60 rfl (lv_at hl 3 rfl) ?_
        refine lv_aload_n hx hb dX11_worth_61 rfl (lv_at hl 1 rfl) ?_
        refine gx_getR E hw kF_CT_20_10 (by decide) dX11_worth_62 (fun v10 _ => ?_)
        refine gx_getR E hw kF_CT_116_7 (by decide) dX11_worth_65 (fun v11 _ => ?_)
        refine lv_iload hx hb dX11_worth_68 (lv_at hl 0 rfl) ?_
        refine lv_aload_n hx hb dX11_worth_70 rfl (lv_at hl 1 rfl) ?_
        refine gx_getR E hw kF_CT_20_10 (by decide) dX11_worth_71 (fun v12 _ => ?_)
        refine gx_getR E hw kF_CT_116_7 (by decide) dX11_worth_74 (fun v13 _ => ?_)
        refine lv_iload hx hb dX11_worth_77 (lv_at hl 0 rfl) ?_
        refine W_bind fun _ hck => ?_
        refine W_bind fun z14 hz => ?_
        refine w_after (cells1 := 0) (slots1 := 0) (w_runV E kV_CT_258 kc_X0_bestIn (t_Lands_bestIn l hfl G N v13 v9 M r ((fun z => (.inl (some (.int z)), M, r)) z14) (by rw [hz]; rfl)) ⟨Nat.le_of_ble_eq_true rfl, Nat.le_of_ble_eq_true rfl⟩ hw (w_recv E hw (by decide) ⟨_, _, rfl⟩ (ck_ok hck)) rfl hl.1 rfl (Nat.le_of_ble_eq_true rfl) dX11_worth_79 ⟨Nat.le_of_ble_eq_true rfl, Nat.le_of_ble_eq_true rfl⟩) hw rfl (Nat.le_of_ble_eq_true rfl) (Nat.le_of_ble_eq_true rfl) (fun H locs hw => ?_)
        refine W.eq (g2 := F0 m 82 ls [.int z14, .int v9, .ref v11, .int x2]) rfl ?_
        have hw : w_W G M r s H locs := hw
        refine W_bind fun _ hck => ?_
        refine W_bind fun z15 hz => ?_
        refine w_after (cells1 := 0) (slots1 := 0) (w_runV E kV_CT_255 kc_X0_expectedOf (t_Lands_expectedOf l hfl G N v11 v9 z14 M r ((fun z => (.inl (some (.int z)), M, r)) z15) (by rw [hz]; rfl)) ⟨Nat.le_of_ble_eq_true rfl, Nat.le_of_ble_eq_true rfl⟩ hw (w_recv E hw (by decide) ⟨_, _, rfl⟩ (ck_ok hck)) rfl hl.1 rfl (Nat.le_of_ble_eq_true rfl) dX11_worth_82 ⟨Nat.le_of_ble_eq_true rfl, Nat.le_of_ble_eq_true rfl⟩) hw rfl (Nat.le_of_ble_eq_true rfl) (Nat.le_of_ble_eq_true rfl) (fun H locs hw => ?_)
        refine W.eq (g2 := F0 m 85 ls [.int z15, .int x2]) rfl ?_
        have hw : w_W G M r s H locs := hw
        refine lv_iadd hx hb dX11_worth_85 ?_
        refine lv_istore_n (lv' := [(2, .int (x2 + z15)), (4, .int v9), (0, .ref this), (1, .int x1), (3, .int x3)]) hx hb dX11_worth_86 rfl hl (by decide) rfl (fun ls hl => ?_)
        refine lv_iinc (v := x3 + 1) (lv' := [(3, .int (x3 + 1)), (2, .int (x2 + z15)), (4, .int v9), (0, .ref this), (1, .int x1)]) hx hb dX11_worth_87 hl (k := 4) rfl rfl (by decide) rfl (fun ls hl => ?_)
        refine lv_goto (tgt := 35) hx hb dX11_worth_90 (by decide) ?_
        exact ih x1 (x2 + z15) (x3 + 1) _ _ _ hw (lv_sub hl [3, 4, 1, 0] rfl)
  have w6 : ∀ (n : Nat) (x1 : Int32) (x2 : Int32) (H : Heap) (locs : List Loc) (ls : Array Slot), w_W G M r s H locs → lv_has ls 5 [(0, .ref this), (1, .int x1), (2, .int x2)] → W p l e rm_CT_worth s m args below meth c H locs 0 0 (PQ G below args s rm_CT_worth.cells rm_CT_worth.slots (fun z => (.inl (some (.int z)), M, r)) (f_CT_worth_6 N this M n x1 x2)) (F0 m 6 ls []) := by
    intro n
    induction n with
    | zero => intros; exact W_none
    | succ n ih =>
      intro x1 x2 H locs ls hw hl
      rw [f_CT_worth_6]
      refine lv_iload_n hx hb dX11_worth_6 rfl (lv_at hl 2 rfl) ?_
      refine lv_bipush (v := 32) hx hb dX11_worth_7 (by decide) ?_
      refine cx_icmp_ge (tgt := 31) E dX11_worth_9 (by decide) (fun _ => ?_) (fun _ => ?_)
      · refine lv_iconst (v := 0) hx hb dX11_worth_31 (by decide) ?_
        refine lv_istore_n (lv' := [(2, .int 0), (0, .ref this), (1, .int x1)]) hx hb dX11_worth_32 rfl hl (by decide) rfl (fun ls hl => ?_)
        refine lv_iconst (v := 0) hx hb dX11_worth_33 (by decide) ?_
        refine lv_istore_n (lv' := [(3, .int 0), (2, .int 0), (0, .ref this), (1, .int x1)]) hx hb dX11_worth_34 rfl hl (by decide) rfl (fun ls hl => ?_)
        exact w35  N x1 0 0 _ _ _ hw (lv_sub hl [2, 3, 1, 0] rfl)
      · refine lv_iload_n hx hb dX11_worth_12 rfl (lv_at hl 1 rfl) ?_
        refine lv_aload_n hx hb dX11_worth_13 rfl (lv_at hl 0 rfl) ?_
        refine gx_getR E hw kF_CT_20_10 (by decide) dX11_worth_14 (fun v1 _ => ?_)
        refine lv_iload_n hx hb dX11_worth_17 rfl (lv_at hl 2 rfl) ?_
        refine W_bind fun _ hck => ?_
        refine W_bind fun z2 hz => ?_
        refine w_after (cells1 := 0) (slots1 := 0) (w_runV E kV_CT_286 kc_X8_expectedByAll (t_Town_expectedByAll l hfl G N v1 x2 M r ((fun z => (.inl (some (.int z)), M, r)) z2) (by rw [hz]; rfl)) ⟨Nat.le_of_ble_eq_true rfl, Nat.le_of_ble_eq_true rfl⟩ hw (w_recv E hw (by decide) ⟨_, _, rfl⟩ (ck_ok hck)) rfl hl.1 rfl (Nat.le_of_ble_eq_true rfl) dX11_worth_18 ⟨Nat.le_of_ble_eq_true rfl, Nat.le_of_ble_eq_true rfl⟩) hw rfl (Nat.le_of_ble_eq_true rfl) (Nat.le_of_ble_eq_true rfl) (fun H locs hw => ?_)
        refine W.eq (g2 := F0 m 21 ls [.int z2, .int x1]) rfl ?_
        have hw : w_W G M r s H locs := hw
        refine W_bind fun z3 hz => ?_
        refine w_after (cells1 := 0) (slots1 := 0) (w_runS E kS_CT_289 kc_J9_min_7cf53 (t_Math_min l hfl G x1 z2 M r ((fun z => (.inl (some (.int z)), M, r)) z3) (by rw [hz]; rfl)) ⟨Nat.le_of_ble_eq_true rfl, Nat.le_of_ble_eq_true rfl⟩ hw rfl hl.1 rfl (Nat.le_of_ble_eq_true rfl) dX11_worth_21 ⟨Nat.le_of_ble_eq_true rfl, Nat.le_of_ble_eq_true rfl⟩) hw rfl (Nat.le_of_ble_eq_true rfl) (Nat.le_of_ble_eq_true rfl) (fun H locs hw => ?_)
        refine W.eq (g2 := F0 m 24 ls [.int z3]) rfl ?_
        have hw : w_W G M r s H locs := hw
        refine lv_istore_n (lv' := [(1, .int z3), (0, .ref this), (2, .int x2)]) hx hb dX11_worth_24 rfl hl (by decide) rfl (fun ls hl => ?_)
        refine lv_iinc (v := x2 + 1) (lv' := [(2, .int (x2 + 1)), (1, .int z3), (0, .ref this)]) hx hb dX11_worth_25 hl (k := 2) rfl rfl (by decide) rfl (fun ls hl => ?_)
        refine lv_goto (tgt := 6) hx hb dX11_worth_28 (by decide) ?_
        exact ih z3 (x2 + 1) _ _ _ hw (lv_sub hl [2, 1, 0] rfl)
  unfold f_CT_worth
  refine lv_ldcw hx hb hown (hts _ kC_CT_285) dX11_worth_0 ?_
  refine lv_istore_n (lv' := [(1, .int 1000000000), (0, .ref this)]) hx hb dX11_worth_3 rfl hl (by decide) rfl (fun ls hl => ?_)
  refine lv_iconst (v := 0) hx hb dX11_worth_4 (by decide) ?_
  refine lv_istore_n (lv' := [(2, .int 0), (1, .int 1000000000), (0, .ref this)]) hx hb dX11_worth_5 rfl hl (by decide) rfl (fun ls hl => ?_)
  exact w6  N 1000000000 0 _ _ _ hw (lv_sub hl [2, 1, 0] rfl)
set_option maxHeartbeats 4000000 in
set_option maxRecDepth 100000 in
theorem t_Town_everybody (l : Launch) (hfl : l.stackTraces = false) (G : wG) (this : Nat) (M : Mem) (r : Rho) : Ctr l yX8_everybody (wWs yX8_everybody cX8_everybody 1 (some .int)) rm_Town_everybody rm_Town_everybody.cells rm_Town_everybody.slots G [.ref this] M r ((f_Town_everybody this M).map (fun z => (.inl (some (.int z)), M, r))) := by
  refine Ctr.ofF (own := "CheekTown$Town") (by decide +kernel) hfl rfl (Nat.le_of_ble_eq_true rfl) (fun p e s m args below meth c E hno hr hnm hw ls hl => ?_)
  obtain ⟨hx, hb, hts, hown, hml, hTT, -⟩ := id E
  have hl : lv_has ls 1 [(0, .ref this)] := hl
  obtain ⟨H, hH⟩ : ∃ H, H = s.heap := ⟨_, rfl⟩
  obtain ⟨locs, hlo⟩ : ∃ L : List Loc, L = [] := ⟨_, rfl⟩
  rw [← hH, ← hlo]
  rw [← hlo] at hw
  replace hw : w_W G M r s H locs := by rw [hH]; exact hw
  unfold f_Town_everybody
  refine lv_iconst (v := 1) hx hb dX8_everybody_0 (by decide) ?_
  refine lv_aload_n hx hb dX8_everybody_1 rfl (lv_at hl 0 rfl) ?_
  refine gx_getI E hw kF_Town_50_7 (by decide) dX8_everybody_2 (fun v1 _ => ?_)
  refine lv_ishl hx hb dX8_everybody_5 ?_
  refine lv_iconst (v := 1) hx hb dX8_everybody_6 (by decide) ?_
  refine lv_isub hx hb dX8_everybody_7 ?_
  exact p_iret E hw hr (Nat.le_of_ble_eq_true rfl) (Nat.le_of_ble_eq_true rfl) rfl dX8_everybody_8
set_option maxHeartbeats 4000000 in
set_option maxRecDepth 100000 in
theorem t_Integer_bitCount (l : Launch) (hfl : l.stackTraces = false) (G : wG) (a0 : Int32) (M : Mem) (r : Rho) : Ctr l yJ6_bitCount_0f7a4 (wWs yJ6_bitCount_0f7a4 cJ6_bitCount_0f7a4 1 (some .int)) rm_Integer_bitCount rm_Integer_bitCount.cells rm_Integer_bitCount.slots G [.int a0] M r ((f_Integer_bitCount a0).map (fun z => (.inl (some (.int z)), M, r))) := by
  refine Ctr.ofF (own := "java/lang/Intege\x72") (by decide +kernel) hfl rfl (Nat.le_of_ble_eq_true rfl) (fun p e s m args below meth c E hno hr hnm hw ls hl => ?_)
  obtain ⟨hx, hb, hts, hown, hml, hTT, -⟩ := id E
  have hl : lv_has ls 1 [(0, .int a0)] := hl
  obtain ⟨H, hH⟩ : ∃ H, H = s.heap := ⟨_, rfl⟩
  obtain ⟨locs, hlo⟩ : ∃ L : List Loc, L = [] := ⟨_, rfl⟩
  rw [← hH, ← hlo]
  rw [← hlo] at hw
  replace hw : w_W G M r s H locs := by rw [hH]; exact hw
  unfold f_Integer_bitCount
  refine lv_iload_n hx hb dJ6_bitCount_0f7a4_0 rfl (lv_at hl 0 rfl) ?_
  refine lv_iload_n hx hb dJ6_bitCount_0f7a4_1 rfl (lv_at hl 0 rfl) ?_
  refine lv_iconst (v := 1) hx hb dJ6_bitCount_0f7a4_2 (by decide) ?_
  refine lv_iushr (v := ushr a0 1) hx hb dJ6_bitCount_0f7a4_3 rfl ?_
  refine lv_ldcw hx hb hown (hts _ kC_Integer_265) dJ6_bitCount_0f7a4_4 ?_
  refine lv_iand hx hb dJ6_bitCount_0f7a4_7 ?_
  refine lv_isub hx hb dJ6_bitCount_0f7a4_8 ?_
  refine lv_istore_n (lv' := [(0, .int (a0 - ((ushr a0 1) &&& 1431655765)))]) hx hb dJ6_bitCount_0f7a4_9 rfl hl (by decide) rfl (fun ls hl => ?_)
  refine lv_iload_n hx hb dJ6_bitCount_0f7a4_10 rfl (lv_at hl 0 rfl) ?_
  refine lv_ldcw hx hb hown (hts _ kC_Integer_266) dJ6_bitCount_0f7a4_11 ?_
  refine lv_iand hx hb dJ6_bitCount_0f7a4_14 ?_
  refine lv_iload_n hx hb dJ6_bitCount_0f7a4_15 rfl (lv_at hl 0 rfl) ?_
  refine lv_iconst (v := 2) hx hb dJ6_bitCount_0f7a4_16 (by decide) ?_
  refine lv_iushr (v := ushr (a0 - ((ushr a0 1) &&& 1431655765)) 2) hx hb dJ6_bitCount_0f7a4_17 rfl ?_
  refine lv_ldcw hx hb hown (hts _ kC_Integer_266) dJ6_bitCount_0f7a4_18 ?_
  refine lv_iand hx hb dJ6_bitCount_0f7a4_21 ?_
  refine lv_iadd hx hb dJ6_bitCount_0f7a4_22 ?_
  refine lv_istore_n (lv' := [(0, .int (((a0 - ((ushr a0 1) &&& 1431655765)) &&& 858993459) + ((ushr (a0 - ((ushr a0 1) &&& 1431655765)) 2) &&& 858993459)))]) hx hb dJ6_bitCount_0f7a4_23 rfl hl (by decide) rfl (fun ls hl => ?_)
  refine lv_iload_n hx hb dJ6_bitCount_0f7a4_24 rfl (lv_at hl 0 rfl) ?_
  refine lv_iload_n hx hb dJ6_bitCount_0f7a4_25 rfl (lv_at hl 0 rfl) ?_
  refine lv_iconst (v := 4) hx hb dJ6_bitCount_0f7a4_26 (by decide) ?_
  refine lv_iushr (v := ushr (((a0 - ((ushr a0 1) &&& 1431655765)) &&& 858993459) + ((ushr (a0 - ((ushr a0 1) &&& 1431655765)) 2) &&& 858993459)) 4) hx hb dJ6_bitCount_0f7a4_27 rfl ?_
  refine lv_iadd hx hb dJ6_bitCount_0f7a4_28 ?_
  refine lv_ldcw hx hb hown (hts _ kC_Integer_267) dJ6_bitCount_0f7a4_29 ?_
  refine lv_iand hx hb dJ6_bitCount_0f7a4_32 ?_
  refine lv_istore_n (lv' := [(0, .int (((((a0 - ((ushr a0 1) &&& 1431655765)) &&& 858993459) + ((ushr (a0 - ((ushr a0 1) &&& 1431655765)) 2) &&& 858993459)) + (ushr (((a0 - ((ushr a0 1) &&& 1431655765)) &&& 858993459) + ((ushr (a0 - ((ushr a0 1) &&& 1431655765)) 2) &&& 858993459)) 4)) &&& 252645135))]) hx hb dJ6_bitCount_0f7a4_33 rfl hl (by decide) rfl (fun ls hl => ?_)
  refine lv_iload_n hx hb dJ6_bitCount_0f7a4_34 rfl (lv_at hl 0 rfl) ?_
  refine lv_iload_n hx hb dJ6_bitCount_0f7a4_35 rfl (lv_at hl 0 rfl) ?_
  refine lv_bipush (v := 8) hx hb dJ6_bitCount_0f7a4_36 (by decide) ?_
  refine lv_iushr (v := ushr (((((a0 - ((ushr a0 1) &&& 1431655765)) &&& 858993459) + ((ushr (a0 - ((ushr a0 1) &&& 1431655765)) 2) &&& 858993459)) + (ushr (((a0 - ((ushr a0 1) &&& 1431655765)) &&& 858993459) + ((ushr (a0 - ((ushr a0 1) &&& 1431655765)) 2) &&& 858993459)) 4)) &&& 252645135) 8) hx hb dJ6_bitCount_0f7a4_38 rfl ?_
  refine lv_iadd hx hb dJ6_bitCount_0f7a4_39 ?_
  refine lv_istore_n (lv' := [(0, .int ((((((a0 - ((ushr a0 1) &&& 1431655765)) &&& 858993459) + ((ushr (a0 - ((ushr a0 1) &&& 1431655765)) 2) &&& 858993459)) + (ushr (((a0 - ((ushr a0 1) &&& 1431655765)) &&& 858993459) + ((ushr (a0 - ((ushr a0 1) &&& 1431655765)) 2) &&& 858993459)) 4)) &&& 252645135) + (ushr (((((a0 - ((ushr a0 1) &&& 1431655765)) &&& 858993459) + ((ushr (a0 - ((ushr a0 1) &&& 1431655765)) 2) &&& 858993459)) + (ushr (((a0 - ((ushr a0 1) &&& 1431655765)) &&& 858993459) + ((ushr (a0 - ((ushr a0 1) &&& 1431655765)) 2) &&& 858993459)) 4)) &&& 252645135) 8)))]) hx hb dJ6_bitCount_0f7a4_40 rfl hl (by decide) rfl (fun ls hl => ?_)
  refine lv_iload_n hx hb dJ6_bitCount_0f7a4_41 rfl (lv_at hl 0 rfl) ?_
  refine lv_iload_n hx hb dJ6_bitCount_0f7a4_42 rfl (lv_at hl 0 rfl) ?_
  refine lv_bipush (v := 16) hx hb dJ6_bitCount_0f7a4_43 (by decide) ?_
  refine lv_iushr (v := ushr ((((((a0 - ((ushr a0 1) &&& 1431655765)) &&& 858993459) + ((ushr (a0 - ((ushr a0 1) &&& 1431655765)) 2) &&& 858993459)) + (ushr (((a0 - ((ushr a0 1) &&& 1431655765)) &&& 858993459) + ((ushr (a0 - ((ushr a0 1) &&& 1431655765)) 2) &&& 858993459)) 4)) &&& 252645135) + (ushr (((((a0 - ((ushr a0 1) &&& 1431655765)) &&& 858993459) + ((ushr (a0 - ((ushr a0 1) &&& 1431655765)) 2) &&& 858993459)) + (ushr (((a0 - ((ushr a0 1) &&& 1431655765)) &&& 858993459) + ((ushr (a0 - ((ushr a0 1) &&& 1431655765)) 2) &&& 858993459)) 4)) &&& 252645135) 8)) 16) hx hb dJ6_bitCount_0f7a4_45 rfl ?_
  refine lv_iadd hx hb dJ6_bitCount_0f7a4_46 ?_
  refine lv_istore_n (lv' := [(0, .int (((((((a0 - ((ushr a0 1) &&& 1431655765)) &&& 858993459) + ((ushr (a0 - ((ushr a0 1) &&& 1431655765)) 2) &&& 858993459)) + (ushr (((a0 - ((ushr a0 1) &&& 1431655765)) &&& 858993459) + ((ushr (a0 - ((ushr a0 1) &&& 1431655765)) 2) &&& 858993459)) 4)) &&& 252645135) + (ushr (((((a0 - ((ushr a0 1) &&& 1431655765)) &&& 858993459) + ((ushr (a0 - ((ushr a0 1) &&& 1431655765)) 2) &&& 858993459)) + (ushr (((a0 - ((ushr a0 1) &&& 1431655765)) &&& 858993459) + ((ushr (a0 - ((ushr a0 1) &&& 1431655765)) 2) &&& 858993459)) 4)) &&& 252645135) 8)) + (ushr ((((((a0 - ((ushr a0 1) &&& 1431655765)) &&& 858993459) + ((ushr (a0 - ((ushr a0 1) &&& 1431655765)) 2) &&& 858993459)) + (ushr (((a0 - ((ushr a0 1) &&& 1431655765)) &&& 858993459) + ((ushr (a0 - ((ushr a0 1) &&& 1431655765)) 2) &&& 858993459)) 4)) &&& 252645135) + (ushr (((((a0 - ((ushr a0 1) &&& 1431655765)) &&& 858993459) + ((ushr (a0 - ((ushr a0 1) &&& 1431655765)) 2) &&& 858993459)) + (ushr (((a0 - ((ushr a0 1) &&& 1431655765)) &&& 858993459) + ((ushr (a0 - ((ushr a0 1) &&& 1431655765)) 2) &&& 858993459)) 4)) &&& 252645135) 8)) 16)))]) hx hb dJ6_bitCount_0f7a4_47 rfl hl (by decide) rfl (fun ls hl => ?_)
  refine lv_iload_n hx hb dJ6_bitCount_0f7a4_48 rfl (lv_at hl 0 rfl) ?_
  refine lv_bipush (v := 63) hx hb dJ6_bitCount_0f7a4_49 (by decide) ?_
  refine lv_iand hx hb dJ6_bitCount_0f7a4_51 ?_
  exact p_iret E hw hr (Nat.le_of_ble_eq_true rfl) (Nat.le_of_ble_eq_true rfl) rfl dJ6_bitCount_0f7a4_52
set_option maxHeartbeats 4000000 in
set_option maxRecDepth 100000 in
theorem t_CT_isIn (l : Launch) (hfl : l.stackTraces = false) (G : wG) (a0 : Int32) (a1 : Int32) (M : Mem) (r : Rho) : Ctr l yX11_isIn (wWs yX11_isIn cX11_isIn 2 (some .boolean)) rm_CT_isIn rm_CT_isIn.cells rm_CT_isIn.slots G [.int a0, .int a1] M r ((f_CT_isIn a0 a1).map (fun z => (.inl (some (.int z)), M, r))) := by
  refine Ctr.ofF (own := "CheekTown") (by decide +kernel) hfl rfl (Nat.le_of_ble_eq_true rfl) (fun p e s m args below meth c E hno hr hnm hw ls hl => ?_)
  obtain ⟨hx, hb, hts, hown, hml, hTT, -⟩ := id E
  have hl : lv_has ls 2 [(0, .int a0), (1, .int a1)] := hl
  obtain ⟨H, hH⟩ : ∃ H, H = s.heap := ⟨_, rfl⟩
  obtain ⟨locs, hlo⟩ : ∃ L : List Loc, L = [] := ⟨_, rfl⟩
  rw [← hH, ← hlo]
  rw [← hlo] at hw
  replace hw : w_W G M r s H locs := by rw [hH]; exact hw
  unfold f_CT_isIn
  refine lv_iload_n hx hb dX11_isIn_0 rfl (lv_at hl 0 rfl) ?_
  refine lv_iload_n hx hb dX11_isIn_1 rfl (lv_at hl 1 rfl) ?_
  refine lv_ishr hx hb dX11_isIn_2 ?_
  refine lv_iconst (v := 1) hx hb dX11_isIn_3 (by decide) ?_
  refine lv_iand hx hb dX11_isIn_4 ?_
  refine lv_iconst (v := 1) hx hb dX11_isIn_5 (by decide) ?_
  refine cx_icmp_ne (tgt := 13) E dX11_isIn_6 (by decide) (fun _ => ?_) (fun _ => ?_)
  · refine lv_iconst (v := 0) hx hb dX11_isIn_13 (by decide) ?_
    exact p_zret E hw hr (by decide) (Nat.le_of_ble_eq_true rfl) (Nat.le_of_ble_eq_true rfl) rfl dX11_isIn_14
  · refine lv_iconst (v := 1) hx hb dX11_isIn_9 (by decide) ?_
    refine lv_goto (tgt := 14) hx hb dX11_isIn_10 (by decide) ?_
    exact p_zret E hw hr (by decide) (Nat.le_of_ble_eq_true rfl) (Nat.le_of_ble_eq_true rfl) rfl dX11_isIn_14
set_option maxHeartbeats 4000000 in
set_option maxRecDepth 100000 in
theorem t_Town_costOfOwns (l : Launch) (hfl : l.stackTraces = false) (G : wG) (this : Nat) (a0 : Int32) (a1 : Int32) (M : Mem) (r : Rho) : Ctr l yX8_costOfOwns (wWs yX8_costOfOwns cX8_costOfOwns 3 (some .int)) rm_Town_costOfOwns rm_Town_costOfOwns.cells rm_Town_costOfOwns.slots G [.ref this, .int a0, .int a1] M r ((f_Town_costOfOwns this a0 a1 M).map (fun z => (.inl (some (.int z)), M, r))) := by
  refine Ctr.ofF (own := "CheekTown$Town") (by decide +kernel) hfl rfl (Nat.le_of_ble_eq_true rfl) (fun p e s m args below meth c E hno hr hnm hw ls hl => ?_)
  obtain ⟨hx, hb, hts, hown, hml, hTT, -⟩ := id E
  have hl : lv_has ls 3 [(0, .ref this), (1, .int a0), (2, .int a1)] := hl
  obtain ⟨H, hH⟩ : ∃ H, H = s.heap := ⟨_, rfl⟩
  obtain ⟨locs, hlo⟩ : ∃ L : List Loc, L = [] := ⟨_, rfl⟩
  rw [← hH, ← hlo]
  rw [← hlo] at hw
  replace hw : w_W G M r s H locs := by rw [hH]; exact hw
  unfold f_Town_costOfOwns
  refine lv_aload_n hx hb dX8_costOfOwns_0 rfl (lv_at hl 0 rfl) ?_
  refine gx_getR E hw kF_Town_12_7 (by decide) dX8_costOfOwns_1 (fun v1 _ => ?_)
  refine gx_getR E hw kF_Town_133_0 (by decide) dX8_costOfOwns_4 (fun v2 _ => ?_)
  refine lv_aload_n hx hb dX8_costOfOwns_7 rfl (lv_at hl 0 rfl) ?_
  refine gx_getR E hw kF_Town_20_7 (by decide) dX8_costOfOwns_8 (fun v3 _ => ?_)
  refine lv_iload_n hx hb dX8_costOfOwns_11 rfl (lv_at hl 1 rfl) ?_
  refine gx_aald E hw (by decide) dX8_costOfOwns_12 (fun v4 _ => ?_)
  refine gx_getI E hw kF_Town_90_5 (by decide) dX8_costOfOwns_13 (fun v5 _ => ?_)
  refine lv_aload_n hx hb dX8_costOfOwns_16 rfl (lv_at hl 0 rfl) ?_
  refine gx_getR E hw kF_Town_20_7 (by decide) dX8_costOfOwns_17 (fun v6 _ => ?_)
  refine lv_iload_n hx hb dX8_costOfOwns_20 rfl (lv_at hl 2 rfl) ?_
  refine gx_aald E hw (by decide) dX8_costOfOwns_21 (fun v7 _ => ?_)
  refine gx_getI E hw kF_Town_90_5 (by decide) dX8_costOfOwns_22 (fun v8 _ => ?_)
  refine W_bind fun _ hck => ?_
  refine W_bind fun z9 hz => ?_
  refine w_after (cells1 := 0) (slots1 := 0) (w_runV E kV_Town_137 kc_X4_costOf (t_Manners_costOf l hfl G v2 v5 v8 M r ((fun z => (.inl (some (.int z)), M, r)) z9) (by rw [hz]; rfl)) ⟨Nat.le_of_ble_eq_true rfl, Nat.le_of_ble_eq_true rfl⟩ hw (w_recv E hw (by decide) ⟨_, _, rfl⟩ (ck_ok hck)) rfl hl.1 rfl (Nat.le_of_ble_eq_true rfl) dX8_costOfOwns_25 ⟨Nat.le_of_ble_eq_true rfl, Nat.le_of_ble_eq_true rfl⟩) hw rfl (Nat.le_of_ble_eq_true rfl) (Nat.le_of_ble_eq_true rfl) (fun H locs hw => ?_)
  refine W.eq (g2 := F0 m 28 ls [.int z9]) rfl ?_
  have hw : w_W G M r s H locs := hw
  exact p_iret E hw hr (Nat.le_of_ble_eq_true rfl) (Nat.le_of_ble_eq_true rfl) rfl dX8_costOfOwns_28
set_option maxHeartbeats 4000000 in
set_option maxRecDepth 100000 in
theorem t_Seating_closeRing (l : Launch) (hfl : l.stackTraces = false) (G : wG) (this : Nat) (a0 : Int32) (M : Mem) (r : Rho) : Ctr l yX6_closeRing (wWs yX6_closeRing cX6_closeRing 3 none) rm_Seating_closeRing rm_Seating_closeRing.cells rm_Seating_closeRing.slots G [.ref this, .int a0] M r ((f_Seating_closeRing this a0 M).map (fun z => (.inl none, z, r))) := by
  refine Ctr.ofF (own := "CheekTown$Seating") (by decide +kernel) hfl rfl (Nat.le_of_ble_eq_true rfl) (fun p e s m args below meth c E hno hr hnm hw ls hl => ?_)
  obtain ⟨hx, hb, hts, hown, hml, hTT, -⟩ := id E
  have hl : lv_has ls 3 [(0, .ref this), (1, .int a0)] := hl
  obtain ⟨H, hH⟩ : ∃ H, H = s.heap := ⟨_, rfl⟩
  obtain ⟨locs, hlo⟩ : ∃ L : List Loc, L = [] := ⟨_, rfl⟩
  rw [← hH, ← hlo]
  rw [← hlo] at hw
  replace hw : w_W G M r s H locs := by rw [hH]; exact hw
  have w36 : ∀ (y0 : Int32) (M : Mem) (H : Heap) (locs : List Loc) (ls : Array Slot), w_W G M r s H locs → lv_has ls 3 [(0, .ref this), (1, .int a0)] → W p l e rm_Seating_closeRing s m args below meth c H locs 0 0 (PQ G below args s rm_Seating_closeRing.cells rm_Seating_closeRing.slots (fun z => (.inl none, z, r)) (f_Seating_closeRing_36 this a0 y0 M)) (F0 m 36 ls [.int y0]) := by
    intro y0 M H locs ls hw hl
    unfold f_Seating_closeRing_36
    refine lv_istore_n (lv' := [(2, .int y0), (0, .ref this), (1, .int a0)]) hx hb dX6_closeRing_36 rfl hl (by decide) rfl (fun ls hl => ?_)
    refine lv_iload_n hx hb dX6_closeRing_37 rfl (lv_at hl 2 rfl) ?_
    refine lv_iload_n hx hb dX6_closeRing_38 rfl (lv_at hl 0 rfl) ?_
    refine lv_iadd hx hb dX6_closeRing_39 ?_
    refine lv_aload_n hx hb dX6_closeRing_40 rfl (lv_at hl 1 rfl) ?_
    refine gx_getI E hw kF_Seating_33_6 (by decide) dX6_closeRing_41 (fun v9 _ => ?_)
    refine cx_icmp_ge (tgt := 69) E dX6_closeRing_44 (by decide) (fun _ => ?_) (fun _ => ?_)
    · exact p_vret E hw hr (Nat.le_of_ble_eq_true rfl) (Nat.le_of_ble_eq_true rfl) rfl dX6_closeRing_69
    · refine lv_aload_n hx hb dX6_closeRing_47 rfl (lv_at hl 1 rfl) ?_
      refine lv_iload_n hx hb dX6_closeRing_48 rfl (lv_at hl 2 rfl) ?_
      refine lv_iload_n hx hb dX6_closeRing_49 rfl (lv_at hl 0 rfl) ?_
      refine lv_iadd hx hb dX6_closeRing_50 ?_
      refine gx_putI E hw kF_Seating_33_6 kT_6_0 (by decide) dX6_closeRing_51 (fun M10 H locs _ hw => ?_)
      refine lv_aload_n hx hb dX6_closeRing_54 rfl (lv_at hl 1 rfl) ?_
      refine gx_getR E hw kF_Seating_15_6 (by decide) dX6_closeRing_55 (fun v11 _ => ?_)
      refine lv_iconst (v := 0) hx hb dX6_closeRing_58 (by decide) ?_
      refine lv_aload_n hx hb dX6_closeRing_59 rfl (lv_at hl 1 rfl) ?_
      refine gx_getR E hw kF_Seating_18_6 (by decide) dX6_closeRing_60 (fun v12 _ => ?_)
      refine lv_iconst (v := 0) hx hb dX6_closeRing_63 (by decide) ?_
      refine lv_bipush (v := 8) hx hb dX6_closeRing_64 (by decide) ?_
      refine gx_copy E hw hl.1.symm kAL_Seating kAn kAs kAi (Nat.le_of_ble_eq_true rfl) (Nat.le_of_ble_eq_true rfl) dX6_closeRing_66 (fun M13 H locs _ hw => ?_)
      exact p_vret E hw hr (Nat.le_of_ble_eq_true rfl) (Nat.le_of_ble_eq_true rfl) rfl dX6_closeRing_69
  unfold f_Seating_closeRing
  refine lv_aload_n hx hb dX6_closeRing_0 rfl (lv_at hl 0 rfl) ?_
  refine gx_getI E hw kF_Seating_25_6 (by decide) dX6_closeRing_1 (fun v1 _ => ?_)
  refine lv_iconst (v := 2) hx hb dX6_closeRing_4 (by decide) ?_
  refine cx_icmp_le (tgt := 35) E dX6_closeRing_5 (by decide) (fun _ => ?_) (fun _ => ?_)
  · refine lv_iconst (v := 0) hx hb dX6_closeRing_35 (by decide) ?_
    exact w36  0 M _ _ _ hw (lv_sub hl [0, 1] rfl)
  · refine lv_aload_n hx hb dX6_closeRing_8 rfl (lv_at hl 0 rfl) ?_
    refine gx_getR E hw kF_Seating_21_6 (by decide) dX6_closeRing_9 (fun v2 _ => ?_)
    refine lv_aload_n hx hb dX6_closeRing_12 rfl (lv_at hl 0 rfl) ?_
    refine gx_getR E hw kF_Seating_15_6 (by decide) dX6_closeRing_13 (fun v3 _ => ?_)
    refine lv_aload_n hx hb dX6_closeRing_16 rfl (lv_at hl 0 rfl) ?_
    refine gx_getI E hw kF_Seating_25_6 (by decide) dX6_closeRing_17 (fun v4 _ => ?_)
    refine lv_iconst (v := 1) hx hb dX6_closeRing_20 (by decide) ?_
    refine lv_isub hx hb dX6_closeRing_21 ?_
    refine gx_iald E hw dX6_closeRing_22 (fun v5 _ => ?_)
    refine lv_aload_n hx hb dX6_closeRing_23 rfl (lv_at hl 0 rfl) ?_
    refine gx_getR E hw kF_Seating_15_6 (by decide) dX6_closeRing_24 (fun v6 _ => ?_)
    refine lv_iconst (v := 0) hx hb dX6_closeRing_27 (by decide) ?_
    refine gx_iald E hw dX6_closeRing_28 (fun v7 _ => ?_)
    refine W_bind fun _ hck => ?_
    refine W_bind fun z8 hz => ?_
    refine w_after (cells1 := 0) (slots1 := 0) (w_runV E kV_Seating_45 kc_X8_costOfOwns (t_Town_costOfOwns l hfl G v2 v5 v7 M r ((fun z => (.inl (some (.int z)), M, r)) z8) (by rw [hz]; rfl)) ⟨Nat.le_of_ble_eq_true rfl, Nat.le_of_ble_eq_true rfl⟩ hw (w_recv E hw (by decide) ⟨_, _, rfl⟩ (ck_ok hck)) rfl hl.1 rfl (Nat.le_of_ble_eq_true rfl) dX6_closeRing_29 ⟨Nat.le_of_ble_eq_true rfl, Nat.le_of_ble_eq_true rfl⟩) hw rfl (Nat.le_of_ble_eq_true rfl) (Nat.le_of_ble_eq_true rfl) (fun H locs hw => ?_)
    refine W.eq (g2 := F0 m 32 ls [.int z8]) rfl ?_
    have hw : w_W G M r s H locs := hw
    refine lv_goto (tgt := 36) hx hb dX6_closeRing_32 (by decide) ?_
    exact w36  z8 M _ _ _ hw (lv_sub hl [0, 1] rfl)
set_option maxHeartbeats 4000000 in
set_option maxRecDepth 100000 in
theorem t_Seating_seatNext (l : Launch) (hfl : l.stackTraces = false) (G : wG) (N : Nat) : ∀ (d : Nat) (a0 : Nat) (a1 : Int32) (a2 : Int32) (a3 : Int32) (M : Mem) (r : Rho), Ctr l yX6_seatNext (wWs yX6_seatNext cX6_seatNext 6 none) (rm_Seating_seatNext d) (rm_Seating_seatNext d).cells (rm_Seating_seatNext d).slots G [.ref a0, .int a1, .int a2, .int a3] M r ((f_Seating_seatNext N d a0 a1 a2 a3 M).map (fun z => (.inl none, z, r))) := by
  intro d
  induction d with
  | zero => intros; intro x hx; cases hx
  | succ d ihd =>
    intro a0 a1 a2 a3 M r
    refine Ctr.ofF (own := "CheekTown$Seating") (by decide +kernel) hfl rfl (Nat.le_of_ble_eq_true rfl) (fun p e s m args below meth c E hno hr hnm hw ls hl => ?_)
    obtain ⟨hx, hb, hts, hown, hml, hTT, -⟩ := id E
    have hl : lv_has ls 6 [(0, .ref a0), (1, .int a1), (2, .int a2), (3, .int a3)] := hl
    obtain ⟨H, hH⟩ : ∃ H, H = s.heap := ⟨_, rfl⟩
    obtain ⟨locs, hlo⟩ : ∃ L : List Loc, L = [] := ⟨_, rfl⟩
    rw [← hH, ← hlo]
    rw [← hlo] at hw
    replace hw : w_W G M r s H locs := by rw [hH]; exact hw
    have w31 : ∀ (n : Nat) (x4 : Int32) (M : Mem) (H : Heap) (locs : List Loc) (ls : Array Slot), w_W G M r s H locs → lv_has ls 6 [(0, .ref a0), (1, .int a1), (2, .int a2), (3, .int a3), (4, .int x4)] → W p l e (rm_Seating_seatNext (d + 1)) s m args below meth c H locs 0 0 (PQ G below args s (rm_Seating_seatNext (d + 1)).cells (rm_Seating_seatNext (d + 1)).slots (fun z => (.inl none, z, r)) (f_Seating_seatNext_31 N (f_Seating_seatNext N d) a0 a1 a2 a3 n x4 M)) (F0 m 31 ls []) := by
      intro n
      induction n with
      | zero => intros; exact W_none
      | succ n ih =>
        intro x4 M H locs ls hw hl
        rw [f_Seating_seatNext_31]
        refine lv_iload hx hb dX6_seatNext_31 (lv_at hl 4 rfl) ?_
        refine lv_aload_n hx hb dX6_seatNext_33 rfl (lv_at hl 0 rfl) ?_
        refine gx_getI E hw kF_Seating_25_6 (by decide) dX6_seatNext_34 (fun v4 _ => ?_)
        refine cx_icmp_ge (tgt := 109) E dX6_seatNext_37 (by decide) (fun _ => ?_) (fun _ => ?_)
        · exact p_vret E hw hr (Nat.le_of_ble_eq_true rfl) (Nat.le_of_ble_eq_true rfl) rfl dX6_seatNext_109
        · refine lv_iload_n hx hb dX6_seatNext_40 rfl (lv_at hl 2 rfl) ?_
          refine lv_iload hx hb dX6_seatNext_41 (lv_at hl 4 rfl) ?_
          refine W_bind fun z5 hz => ?_
          refine w_after (cells1 := 0) (slots1 := 0) (w_runSN E kSN_Seating_29 kc_X11_isIn (t_CT_isIn l hfl G a2 x4 M r ((fun z => (.inl (some (.int z)), M, r)) z5) (by rw [hz]; rfl)) ⟨by show 0 + 1 ≤ 60 + 12 * (d + 1) + 0; omega, by show 8 + (2 + 11) + (0) ≤ 3000 + 400 * (d + 1) + 0; omega⟩ hw rfl hl.1 rfl (Nat.le_of_ble_eq_true rfl) dX6_seatNext_43 ⟨Nat.le_refl _, Nat.le_refl _⟩) hw rfl (Nat.le_refl _) (Nat.le_refl _) (fun H locs hw => ?_)
          refine W.eq (g2 := F0 m 46 ls [.int z5]) rfl ?_
          have hw : w_W G M r s H locs := hw
          refine cx_if_ne (tgt := 103) E dX6_seatNext_46 (by decide) (fun _ => ?_) (fun _ => ?_)
          · refine lv_iinc (v := x4 + 1) (lv' := [(4, .int (x4 + 1)), (0, .ref a0), (1, .int a1), (2, .int a2), (3, .int a3)]) hx hb dX6_seatNext_103 hl (k := 4) rfl rfl (by decide) rfl (fun ls hl => ?_)
            refine lv_goto (tgt := 31) hx hb dX6_seatNext_106 (by decide) ?_
            exact ih (x4 + 1) M _ _ _ hw (lv_sub hl [1, 2, 3, 4, 0] rfl)
          · refine lv_aload_n hx hb dX6_seatNext_49 rfl (lv_at hl 0 rfl) ?_
            refine gx_getR E hw kF_Seating_15_6 (by decide) dX6_seatNext_50 (fun v6 _ => ?_)
            refine lv_iload_n hx hb dX6_seatNext_53 rfl (lv_at hl 1 rfl) ?_
            refine lv_aload_n hx hb dX6_seatNext_54 rfl (lv_at hl 0 rfl) ?_
            refine gx_getR E hw kF_Seating_11_6 (by decide) dX6_seatNext_55 (fun v7 _ => ?_)
            refine lv_iload hx hb dX6_seatNext_58 (lv_at hl 4 rfl) ?_
            refine gx_iald E hw dX6_seatNext_60 (fun v8 _ => ?_)
            refine gx_iast E hw dX6_seatNext_61 (fun M9 H locs _ hw => ?_)
            refine lv_aload_n hx hb dX6_seatNext_62 rfl (lv_at hl 0 rfl) ?_
            refine gx_getR E hw kF_Seating_21_6 (by decide) dX6_seatNext_63 (fun v10 _ => ?_)
            refine lv_aload_n hx hb dX6_seatNext_66 rfl (lv_at hl 0 rfl) ?_
            refine gx_getR E hw kF_Seating_15_6 (by decide) dX6_seatNext_67 (fun v11 _ => ?_)
            refine lv_iload_n hx hb dX6_seatNext_70 rfl (lv_at hl 1 rfl) ?_
            refine lv_iconst (v := 1) hx hb dX6_seatNext_71 (by decide) ?_
            refine lv_isub hx hb dX6_seatNext_72 ?_
            refine gx_iald E hw dX6_seatNext_73 (fun v12 _ => ?_)
            refine lv_aload_n hx hb dX6_seatNext_74 rfl (lv_at hl 0 rfl) ?_
            refine gx_getR E hw kF_Seating_11_6 (by decide) dX6_seatNext_75 (fun v13 _ => ?_)
            refine lv_iload hx hb dX6_seatNext_78 (lv_at hl 4 rfl) ?_
            refine gx_iald E hw dX6_seatNext_80 (fun v14 _ => ?_)
            refine W_bind fun _ hck => ?_
            refine W_bind fun z15 hz => ?_
            refine w_after (cells1 := 0) (slots1 := 0) (w_runV E kV_Seating_45 kc_X8_costOfOwns (t_Town_costOfOwns l hfl G v10 v12 v14 M9 r ((fun z => (.inl (some (.int z)), M9, r)) z15) (by rw [hz]; rfl)) ⟨by show 2 + 1 ≤ 60 + 12 * (d + 1) + 0; omega, by show 8 + (3 + 11) + (43) ≤ 3000 + 400 * (d + 1) + 0; omega⟩ hw (w_recv E hw (by decide) ⟨_, _, rfl⟩ (ck_ok hck)) rfl hl.1 rfl (Nat.le_of_ble_eq_true rfl) dX6_seatNext_81 ⟨Nat.le_refl _, Nat.le_refl _⟩) hw rfl (Nat.le_refl _) (Nat.le_refl _) (fun H locs hw => ?_)
            refine W.eq (g2 := F0 m 84 ls [.int z15]) rfl ?_
            have hw : w_W G M9 r s H locs := hw
            refine lv_istore (lv' := [(5, .int z15), (0, .ref a0), (1, .int a1), (2, .int a2), (3, .int a3), (4, .int x4)]) hx hb dX6_seatNext_84 hl (by decide) rfl (fun ls hl => ?_)
            refine lv_aload_n hx hb dX6_seatNext_86 rfl (lv_at hl 1 rfl) ?_
            refine lv_iload_n hx hb dX6_seatNext_87 rfl (lv_at hl 2 rfl) ?_
            refine lv_iconst (v := 1) hx hb dX6_seatNext_88 (by decide) ?_
            refine lv_iadd hx hb dX6_seatNext_89 ?_
            refine lv_iload_n hx hb dX6_seatNext_90 rfl (lv_at hl 3 rfl) ?_
            refine lv_iconst (v := 1) hx hb dX6_seatNext_91 (by decide) ?_
            refine lv_iload hx hb dX6_seatNext_92 (lv_at hl 5 rfl) ?_
            refine lv_ishl hx hb dX6_seatNext_94 ?_
            refine lv_ior hx hb dX6_seatNext_95 ?_
            refine lv_iload_n hx hb dX6_seatNext_96 rfl (lv_at hl 4 rfl) ?_
            refine lv_iload hx hb dX6_seatNext_97 (lv_at hl 0 rfl) ?_
            refine lv_iadd hx hb dX6_seatNext_99 ?_
            refine W_bind fun z16 hz => ?_
            refine w_after (cells1 := 0) (slots1 := 0) (w_runS E kS_Seating_37 kc_X6_seatNext (ihd a0 (a1 + 1) (a2 ||| (1 <<< (x4 &&& 31))) (a3 + z15) M9 r ((fun z => (.inl none, z, r)) z16) (by rw [hz]; rfl)) ⟨by show 60 + 12 * d + 0 + 1 ≤ 60 + 12 * (d + 1) + 0; omega, by show 8 + (6 + 11) + (3000 + 400 * d + 0) ≤ 3000 + 400 * (d + 1) + 0; omega⟩ hw rfl hl.1 rfl (Nat.le_of_ble_eq_true rfl) dX6_seatNext_100 ⟨Nat.le_refl _, Nat.le_refl _⟩) hw rfl (Nat.le_refl _) (Nat.le_refl _) (fun H locs hw => ?_)
            refine W.eq (g2 := F0 m 103 ls []) rfl ?_
            have hw : w_W G z16 r s H locs := hw
            refine lv_iinc (v := x4 + 1) (lv' := [(4, .int (x4 + 1)), (5, .int z15), (0, .ref a0), (1, .int a1), (2, .int a2), (3, .int a3)]) hx hb dX6_seatNext_103 hl (k := 5) rfl rfl (by decide) rfl (fun ls hl => ?_)
            refine lv_goto (tgt := 31) hx hb dX6_seatNext_106 (by decide) ?_
            exact ih (x4 + 1) z16 _ _ _ hw (lv_sub hl [2, 3, 4, 5, 0] rfl)
    rw [f_Seating_seatNext]
    refine lv_iload_n hx hb dX6_seatNext_0 rfl (lv_at hl 1 rfl) ?_
    refine lv_iconst (v := 1) hx hb dX6_seatNext_1 (by decide) ?_
    refine cx_icmp_lt (tgt := 13) E dX6_seatNext_2 (by decide) (fun _ => ?_) (fun _ => ?_)
    · exact p_vret E hw hr (Nat.le_of_ble_eq_true rfl) (Nat.le_of_ble_eq_true rfl) rfl dX6_seatNext_13
    · refine lv_iload_n hx hb dX6_seatNext_5 rfl (lv_at hl 3 rfl) ?_
      refine lv_aload_n hx hb dX6_seatNext_6 rfl (lv_at hl 0 rfl) ?_
      refine gx_getI E hw kF_Seating_33_6 (by decide) dX6_seatNext_7 (fun v1 _ => ?_)
      refine cx_icmp_lt (tgt := 14) E dX6_seatNext_10 (by decide) (fun _ => ?_) (fun _ => ?_)
      · refine lv_iload_n hx hb dX6_seatNext_14 rfl (lv_at hl 1 rfl) ?_
        refine lv_aload_n hx hb dX6_seatNext_15 rfl (lv_at hl 0 rfl) ?_
        refine gx_getI E hw kF_Seating_25_6 (by decide) dX6_seatNext_16 (fun v2 _ => ?_)
        refine cx_icmp_lt (tgt := 28) E dX6_seatNext_19 (by decide) (fun _ => ?_) (fun _ => ?_)
        · refine lv_iconst (v := 1) hx hb dX6_seatNext_28 (by decide) ?_
          refine lv_istore (lv' := [(4, .int 1), (0, .ref a0), (1, .int a1), (2, .int a2), (3, .int a3)]) hx hb dX6_seatNext_29 hl (by decide) rfl (fun ls hl => ?_)
          exact w31  N 1 M _ _ _ hw (lv_sub hl [1, 2, 3, 4, 0] rfl)
        · refine lv_aload_n hx hb dX6_seatNext_22 rfl (lv_at hl 0 rfl) ?_
          refine lv_iload_n hx hb dX6_seatNext_23 rfl (lv_at hl 3 rfl) ?_
          refine W_bind fun _ hck => ?_
          refine W_bind fun z3 hz => ?_
          refine w_after (cells1 := 0) (slots1 := 0) (w_runV E kV_Seating_41 kc_X6_closeRing (t_Seating_closeRing l hfl G a0 a3 M r ((fun z => (.inl none, z, r)) z3) (by rw [hz]; rfl)) ⟨by show 3 + 1 ≤ 60 + 12 * (d + 1) + 0; omega, by show 8 + (3 + 11) + (100) ≤ 3000 + 400 * (d + 1) + 0; omega⟩ hw (w_recv E hw (by decide) ⟨_, _, rfl⟩ (ck_ok hck)) rfl hl.1 rfl (Nat.le_of_ble_eq_true rfl) dX6_seatNext_24 ⟨Nat.le_refl _, Nat.le_refl _⟩) hw rfl (Nat.le_refl _) (Nat.le_refl _) (fun H locs hw => ?_)
          refine W.eq (g2 := F0 m 27 ls []) rfl ?_
          have hw : w_W G z3 r s H locs := hw
          exact p_vret E hw hr (Nat.le_of_ble_eq_true rfl) (Nat.le_of_ble_eq_true rfl) rfl dX6_seatNext_27
      · exact p_vret E hw hr (Nat.le_of_ble_eq_true rfl) (Nat.le_of_ble_eq_true rfl) rfl dX6_seatNext_13
set_option maxHeartbeats 4000000 in
set_option maxRecDepth 100000 in
theorem t_Seating_seatAll (l : Launch) (hfl : l.stackTraces = false) (G : wG) (N : Nat) (this : Nat) (a0 : Nat) (a1 : Int32) (M : Mem) (r : Rho) : Ctr l yX6_seatAll (wWs yX6_seatAll cX6_seatAll 4 none) rm_Seating_seatAll rm_Seating_seatAll.cells rm_Seating_seatAll.slots G [.ref this, .ref a0, .int a1] M r ((f_Seating_seatAll N this a0 a1 M).map (fun z => (.inl none, z, r))) := by
  refine Ctr.ofF (own := "CheekTown$Seating") (by decide +kernel) hfl rfl (Nat.le_of_ble_eq_true rfl) (fun p e s m args below meth c E hno hr hnm hw ls hl => ?_)
  obtain ⟨hx, hb, hts, hown, hml, hTT, -⟩ := id E
  have hl : lv_has ls 4 [(0, .ref this), (1, .ref a0), (2, .int a1)] := hl
  obtain ⟨H, hH⟩ : ∃ H, H = s.heap := ⟨_, rfl⟩
  obtain ⟨locs, hlo⟩ : ∃ L : List Loc, L = [] := ⟨_, rfl⟩
  rw [← hH, ← hlo]
  rw [← hlo] at hw
  replace hw : w_W G M r s H locs := by rw [hH]; exact hw
  have w12 : ∀ (n : Nat) (x3 : Int32) (M : Mem) (H : Heap) (locs : List Loc) (ls : Array Slot), w_W G M r s H locs → lv_has ls 4 [(0, .ref this), (2, .int a1), (3, .int x3)] → W p l e rm_Seating_seatAll s m args below meth c H locs 0 0 (PQ G below args s rm_Seating_seatAll.cells rm_Seating_seatAll.slots (fun z => (.inl none, z, r)) (f_Seating_seatAll_12 N this a0 a1 n x3 M)) (F0 m 12 ls []) := by
    intro n
    induction n with
    | zero => intros; exact W_none
    | succ n ih =>
      intro x3 M H locs ls hw hl
      rw [f_Seating_seatAll_12]
      refine lv_iload_n hx hb dX6_seatAll_12 rfl (lv_at hl 2 rfl) ?_
      refine lv_bipush (v := 10) hx hb dX6_seatAll_13 (by decide) ?_
      refine cx_icmp_ge (tgt := 61) E dX6_seatAll_15 (by decide) (fun _ => ?_) (fun _ => ?_)
      · refine lv_aload_n hx hb dX6_seatAll_61 rfl (lv_at hl 0 rfl) ?_
        refine lv_iconst (v := 0) hx hb dX6_seatAll_62 (by decide) ?_
        refine gx_putI E hw kF_Seating_33_6 kT_6_0 (by decide) dX6_seatAll_63 (fun M3 H locs _ hw => ?_)
        refine lv_aload_n hx hb dX6_seatAll_66 rfl (lv_at hl 0 rfl) ?_
        refine gx_getI E hw kF_Seating_25_6 (by decide) dX6_seatAll_67 (fun v4 _ => ?_)
        refine cx_if_le (tgt := 98) E dX6_seatAll_70 (by decide) (fun _ => ?_) (fun _ => ?_)
        · exact p_vret E hw hr (Nat.le_of_ble_eq_true rfl) (Nat.le_of_ble_eq_true rfl) rfl dX6_seatAll_98
        · refine lv_aload_n hx hb dX6_seatAll_73 rfl (lv_at hl 0 rfl) ?_
          refine lv_ldc hx hb hown (hts _ kC_Seating_36) dX6_seatAll_74 ?_
          refine gx_putI E hw kF_Seating_33_6 kT_6_0 (by decide) dX6_seatAll_76 (fun M5 H locs _ hw => ?_)
          refine lv_aload_n hx hb dX6_seatAll_79 rfl (lv_at hl 0 rfl) ?_
          refine gx_getR E hw kF_Seating_15_6 (by decide) dX6_seatAll_80 (fun v6 _ => ?_)
          refine lv_iconst (v := 0) hx hb dX6_seatAll_83 (by decide) ?_
          refine lv_aload_n hx hb dX6_seatAll_84 rfl (lv_at hl 0 rfl) ?_
          refine gx_getR E hw kF_Seating_11_6 (by decide) dX6_seatAll_85 (fun v7 _ => ?_)
          refine lv_iconst (v := 0) hx hb dX6_seatAll_88 (by decide) ?_
          refine gx_iald E hw dX6_seatAll_89 (fun v8 _ => ?_)
          refine gx_iast E hw dX6_seatAll_90 (fun M9 H locs _ hw => ?_)
          refine lv_aload_n hx hb dX6_seatAll_91 rfl (lv_at hl 0 rfl) ?_
          refine lv_iconst (v := 1) hx hb dX6_seatAll_92 (by decide) ?_
          refine lv_iconst (v := 1) hx hb dX6_seatAll_93 (by decide) ?_
          refine lv_iconst (v := 0) hx hb dX6_seatAll_94 (by decide) ?_
          refine W_bind fun z10 hz => ?_
          refine w_after (cells1 := 0) (slots1 := 0) (w_runS E kS_Seating_37 kc_X6_seatNext (t_Seating_seatNext l hfl G N 10 this 1 1 0 M9 r ((fun z => (.inl none, z, r)) z10) (by rw [hz]; rfl)) ⟨Nat.le_of_ble_eq_true rfl, Nat.le_of_ble_eq_true rfl⟩ hw rfl hl.1 rfl (Nat.le_of_ble_eq_true rfl) dX6_seatAll_95 ⟨Nat.le_of_ble_eq_true rfl, Nat.le_of_ble_eq_true rfl⟩) hw rfl (Nat.le_of_ble_eq_true rfl) (Nat.le_of_ble_eq_true rfl) (fun H locs hw => ?_)
          refine W.eq (g2 := F0 m 98 ls []) rfl ?_
          have hw : w_W G z10 r s H locs := hw
          exact p_vret E hw hr (Nat.le_of_ble_eq_true rfl) (Nat.le_of_ble_eq_true rfl) rfl dX6_seatAll_98
      · refine lv_iload_n hx hb dX6_seatAll_18 rfl (lv_at hl 1 rfl) ?_
        refine lv_iload_n hx hb dX6_seatAll_19 rfl (lv_at hl 2 rfl) ?_
        refine W_bind fun z11 hz => ?_
        refine w_after (cells1 := 0) (slots1 := 0) (w_runSN E kSN_Seating_29 kc_X11_isIn (t_CT_isIn l hfl G a1 x3 M r ((fun z => (.inl (some (.int z)), M, r)) z11) (by rw [hz]; rfl)) ⟨Nat.le_of_ble_eq_true rfl, Nat.le_of_ble_eq_true rfl⟩ hw rfl hl.1 rfl (Nat.le_of_ble_eq_true rfl) dX6_seatAll_20 ⟨Nat.le_of_ble_eq_true rfl, Nat.le_of_ble_eq_true rfl⟩) hw rfl (Nat.le_of_ble_eq_true rfl) (Nat.le_of_ble_eq_true rfl) (fun H locs hw => ?_)
        refine W.eq (g2 := F0 m 23 ls [.int z11]) rfl ?_
        have hw : w_W G M r s H locs := hw
        refine cx_if_eq (tgt := 55) E dX6_seatAll_23 (by decide) (fun _ => ?_) (fun _ => ?_)
        · refine lv_iinc (v := x3 + 1) (lv' := [(3, .int (x3 + 1)), (0, .ref this), (2, .int a1)]) hx hb dX6_seatAll_55 hl (k := 2) rfl rfl (by decide) rfl (fun ls hl => ?_)
          refine lv_goto (tgt := 12) hx hb dX6_seatAll_58 (by decide) ?_
          exact ih (x3 + 1) M _ _ _ hw (lv_sub hl [1, 2, 0] rfl)
        · refine lv_aload_n hx hb dX6_seatAll_26 rfl (lv_at hl 0 rfl) ?_
          refine gx_getI E hw kF_Seating_25_6 (by decide) dX6_seatAll_27 (fun v12 _ => ?_)
          refine lv_bipush (v := 8) hx hb dX6_seatAll_30 (by decide) ?_
          refine cx_icmp_ge (tgt := 55) E dX6_seatAll_32 (by decide) (fun _ => ?_) (fun _ => ?_)
          · refine lv_iinc (v := x3 + 1) (lv' := [(3, .int (x3 + 1)), (0, .ref this), (2, .int a1)]) hx hb dX6_seatAll_55 hl (k := 2) rfl rfl (by decide) rfl (fun ls hl => ?_)
            refine lv_goto (tgt := 12) hx hb dX6_seatAll_58 (by decide) ?_
            exact ih (x3 + 1) M _ _ _ hw (lv_sub hl [1, 2, 0] rfl)
          · refine lv_aload_n hx hb dX6_seatAll_35 rfl (lv_at hl 0 rfl) ?_
            refine gx_getR E hw kF_Seating_11_6 (by decide) dX6_seatAll_36 (fun v13 _ => ?_)
            refine lv_aload_n hx hb dX6_seatAll_39 rfl (lv_at hl 0 rfl) ?_
            refine gx_getI E hw kF_Seating_25_6 (by decide) dX6_seatAll_40 (fun v14 _ => ?_)
            refine lv_iload_n hx hb dX6_seatAll_43 rfl (lv_at hl 2 rfl) ?_
            refine gx_iast E hw dX6_seatAll_44 (fun M15 H locs _ hw => ?_)
            refine lv_aload_n hx hb dX6_seatAll_45 rfl (lv_at hl 0 rfl) ?_
            refine lv_dup hx hb dX6_seatAll_46 rfl ?_
            refine gx_getI E hw kF_Seating_25_6 (by decide) dX6_seatAll_47 (fun v16 _ => ?_)
            refine lv_iconst (v := 1) hx hb dX6_seatAll_50 (by decide) ?_
            refine lv_iadd hx hb dX6_seatAll_51 ?_
            refine gx_putI E hw kF_Seating_25_6 kT_6_3 (by decide) dX6_seatAll_52 (fun M17 H locs _ hw => ?_)
            refine lv_iinc (v := x3 + 1) (lv' := [(3, .int (x3 + 1)), (0, .ref this), (2, .int a1)]) hx hb dX6_seatAll_55 hl (k := 2) rfl rfl (by decide) rfl (fun ls hl => ?_)
            refine lv_goto (tgt := 12) hx hb dX6_seatAll_58 (by decide) ?_
            exact ih (x3 + 1) M17 _ _ _ hw (lv_sub hl [1, 2, 0] rfl)
  unfold f_Seating_seatAll
  refine lv_aload_n hx hb dX6_seatAll_0 rfl (lv_at hl 0 rfl) ?_
  refine lv_aload_n hx hb dX6_seatAll_1 rfl (lv_at hl 1 rfl) ?_
  refine gx_putR E hw kF_Seating_21_6 kT_6_1 rfl rfl (by decide) dX6_seatAll_2 (fun M1 H locs _ hw => ?_)
  refine lv_aload_n hx hb dX6_seatAll_5 rfl (lv_at hl 0 rfl) ?_
  refine lv_iconst (v := 0) hx hb dX6_seatAll_6 (by decide) ?_
  refine gx_putI E hw kF_Seating_25_6 kT_6_3 (by decide) dX6_seatAll_7 (fun M2 H locs _ hw => ?_)
  refine lv_iconst (v := 0) hx hb dX6_seatAll_10 (by decide) ?_
  refine lv_istore_n (lv' := [(3, .int 0), (0, .ref this), (1, .ref a0), (2, .int a1)]) hx hb dX6_seatAll_11 rfl hl (by decide) rfl (fun ls hl => ?_)
  exact w12  N 0 M2 _ _ _ hw (lv_sub hl [1, 3, 0] rfl)
set_option maxHeartbeats 4000000 in
set_option maxRecDepth 100000 in
theorem t_Seating_guestAt (l : Launch) (hfl : l.stackTraces = false) (G : wG) (this : Nat) (a0 : Int32) (M : Mem) (r : Rho) : Ctr l yX6_guestAt (wWs yX6_guestAt cX6_guestAt 2 (some .int)) rm_Seating_guestAt rm_Seating_guestAt.cells rm_Seating_guestAt.slots G [.ref this, .int a0] M r ((f_Seating_guestAt this a0 M).map (fun z => (.inl (some (.int z)), M, r))) := by
  refine Ctr.ofF (own := "CheekTown$Seating") (by decide +kernel) hfl rfl (Nat.le_of_ble_eq_true rfl) (fun p e s m args below meth c E hno hr hnm hw ls hl => ?_)
  obtain ⟨hx, hb, hts, hown, hml, hTT, -⟩ := id E
  have hl : lv_has ls 2 [(0, .ref this), (1, .int a0)] := hl
  obtain ⟨H, hH⟩ : ∃ H, H = s.heap := ⟨_, rfl⟩
  obtain ⟨locs, hlo⟩ : ∃ L : List Loc, L = [] := ⟨_, rfl⟩
  rw [← hH, ← hlo]
  rw [← hlo] at hw
  replace hw : w_W G M r s H locs := by rw [hH]; exact hw
  unfold f_Seating_guestAt
  refine lv_iload_n hx hb dX6_guestAt_0 rfl (lv_at hl 1 rfl) ?_
  refine cx_if_lt (tgt := 21) E dX6_guestAt_1 (by decide) (fun _ => ?_) (fun _ => ?_)
  · refine lv_iconst (v := (-1)) hx hb dX6_guestAt_21 (by decide) ?_
    exact p_iret E hw hr (Nat.le_of_ble_eq_true rfl) (Nat.le_of_ble_eq_true rfl) rfl dX6_guestAt_22
  · refine lv_iload_n hx hb dX6_guestAt_4 rfl (lv_at hl 1 rfl) ?_
    refine lv_aload_n hx hb dX6_guestAt_5 rfl (lv_at hl 0 rfl) ?_
    refine gx_getI E hw kF_Seating_25_6 (by decide) dX6_guestAt_6 (fun v1 _ => ?_)
    refine cx_icmp_ge (tgt := 21) E dX6_guestAt_9 (by decide) (fun _ => ?_) (fun _ => ?_)
    · refine lv_iconst (v := (-1)) hx hb dX6_guestAt_21 (by decide) ?_
      exact p_iret E hw hr (Nat.le_of_ble_eq_true rfl) (Nat.le_of_ble_eq_true rfl) rfl dX6_guestAt_22
    · refine lv_aload_n hx hb dX6_guestAt_12 rfl (lv_at hl 0 rfl) ?_
      refine gx_getR E hw kF_Seating_18_6 (by decide) dX6_guestAt_13 (fun v2 _ => ?_)
      refine lv_iload_n hx hb dX6_guestAt_16 rfl (lv_at hl 1 rfl) ?_
      refine gx_iald E hw dX6_guestAt_17 (fun v3 _ => ?_)
      refine lv_goto (tgt := 22) hx hb dX6_guestAt_18 (by decide) ?_
      exact p_iret E hw hr (Nat.le_of_ble_eq_true rfl) (Nat.le_of_ble_eq_true rfl) rfl dX6_guestAt_22
set_option maxHeartbeats 4000000 in
set_option maxRecDepth 100000 in
theorem t_CT_table (l : Launch) (hfl : l.stackTraces = false) (G : wG) (N : Nat) (this : Nat) (a0 : Int32) (a1 : Int32) (M : Mem) (r : Rho) : Ctr l yX11_table (wWs yX11_table cX11_table 4 (some .int)) rm_CT_table rm_CT_table.cells rm_CT_table.slots G [.ref this, .int a0, .int a1] M r ((f_CT_table N this a0 a1 M).map (fun z => (.inl (some (.int z.1)), z.2, r))) := by
  refine Ctr.ofF (own := "CheekTown") (by decide +kernel) hfl rfl (Nat.le_of_ble_eq_true rfl) (fun p e s m args below meth c E hno hr hnm hw ls hl => ?_)
  obtain ⟨hx, hb, hts, hown, hml, hTT, -⟩ := id E
  have hl : lv_has ls 4 [(0, .ref this), (1, .int a0), (2, .int a1)] := hl
  obtain ⟨H, hH⟩ : ∃ H, H = s.heap := ⟨_, rfl⟩
  obtain ⟨locs, hlo⟩ : ∃ L : List Loc, L = [] := ⟨_, rfl⟩
  rw [← hH, ← hlo]
  rw [← hlo] at hw
  replace hw : w_W G M r s H locs := by rw [hH]; exact hw
  unfold f_CT_table
  refine lv_iload_n hx hb dX11_table_0 rfl (lv_at hl 1 rfl) ?_
  refine lv_aload_n hx hb dX11_table_1 rfl (lv_at hl 0 rfl) ?_
  refine gx_getR E hw kF_CT_20_10 (by decide) dX11_table_2 (fun v1 _ => ?_)
  refine W_bind fun _ hck => ?_
  refine W_bind fun z2 hz => ?_
  refine w_after (cells1 := 0) (slots1 := 0) (w_runV E kV_CT_310 kc_X8_everybody (t_Town_everybody l hfl G v1 M r ((fun z => (.inl (some (.int z)), M, r)) z2) (by rw [hz]; rfl)) ⟨Nat.le_of_ble_eq_true rfl, Nat.le_of_ble_eq_true rfl⟩ hw (w_recv E hw (by decide) ⟨_, _, rfl⟩ (ck_ok hck)) rfl hl.1 rfl (Nat.le_of_ble_eq_true rfl) dX11_table_5 ⟨Nat.le_of_ble_eq_true rfl, Nat.le_of_ble_eq_true rfl⟩) hw rfl (Nat.le_of_ble_eq_true rfl) (Nat.le_of_ble_eq_true rfl) (fun H locs hw => ?_)
  refine W.eq (g2 := F0 m 8 ls [.int z2, .int a0]) rfl ?_
  have hw : w_W G M r s H locs := hw
  refine lv_iand hx hb dX11_table_8 ?_
  refine lv_istore_n (lv' := [(3, .int (a0 &&& z2)), (0, .ref this), (1, .int a0), (2, .int a1)]) hx hb dX11_table_9 rfl hl (by decide) rfl (fun ls hl => ?_)
  refine lv_iload_n hx hb dX11_table_10 rfl (lv_at hl 0 rfl) ?_
  refine W_bind fun z3 hz => ?_
  refine w_after (cells1 := 0) (slots1 := 0) (w_runS E kS_CT_313 kc_J6_bitCount_0f7a4 (t_Integer_bitCount l hfl G (a0 &&& z2) M r ((fun z => (.inl (some (.int z)), M, r)) z3) (by rw [hz]; rfl)) ⟨Nat.le_of_ble_eq_true rfl, Nat.le_of_ble_eq_true rfl⟩ hw rfl hl.1 rfl (Nat.le_of_ble_eq_true rfl) dX11_table_11 ⟨Nat.le_of_ble_eq_true rfl, Nat.le_of_ble_eq_true rfl⟩) hw rfl (Nat.le_of_ble_eq_true rfl) (Nat.le_of_ble_eq_true rfl) (fun H locs hw => ?_)
  refine W.eq (g2 := F0 m 14 ls [.int z3]) rfl ?_
  have hw : w_W G M r s H locs := hw
  refine lv_bipush (v := 8) hx hb dX11_table_14 (by decide) ?_
  refine cx_icmp_le (tgt := 22) E dX11_table_16 (by decide) (fun _ => ?_) (fun _ => ?_)
  · refine lv_aload_n hx hb dX11_table_22 rfl (lv_at hl 1 rfl) ?_
    refine gx_getR E hw kF_CT_44_10 (by decide) dX11_table_23 (fun v4 _ => ?_)
    refine lv_aload_n hx hb dX11_table_26 rfl (lv_at hl 1 rfl) ?_
    refine gx_getR E hw kF_CT_20_10 (by decide) dX11_table_27 (fun v5 _ => ?_)
    refine lv_iload_n hx hb dX11_table_30 rfl (lv_at hl 0 rfl) ?_
    refine W_bind fun _ hck => ?_
    refine W_bind fun z6 hz => ?_
    refine w_after (cells1 := 0) (slots1 := 0) (w_runV E kV_CT_318 kc_X6_seatAll (t_Seating_seatAll l hfl G N v4 v5 (a0 &&& z2) M r ((fun z => (.inl none, z, r)) z6) (by rw [hz]; rfl)) ⟨Nat.le_of_ble_eq_true rfl, Nat.le_of_ble_eq_true rfl⟩ hw (w_recv E hw (by decide) ⟨_, _, rfl⟩ (ck_ok hck)) rfl hl.1 rfl (Nat.le_of_ble_eq_true rfl) dX11_table_31 ⟨Nat.le_of_ble_eq_true rfl, Nat.le_of_ble_eq_true rfl⟩) hw rfl (Nat.le_of_ble_eq_true rfl) (Nat.le_of_ble_eq_true rfl) (fun H locs hw => ?_)
    refine W.eq (g2 := F0 m 34 ls []) rfl ?_
    have hw : w_W G z6 r s H locs := hw
    refine lv_iload_n hx hb dX11_table_34 rfl (lv_at hl 3 rfl) ?_
    refine lv_iconst (v := (-1)) hx hb dX11_table_35 (by decide) ?_
    refine cx_icmp_ne (tgt := 49) E dX11_table_36 (by decide) (fun _ => ?_) (fun _ => ?_)
    · refine lv_aload_n hx hb dX11_table_49 rfl (lv_at hl 1 rfl) ?_
      refine gx_getR E hw kF_CT_44_10 (by decide) dX11_table_50 (fun v7 _ => ?_)
      refine lv_iload_n hx hb dX11_table_53 rfl (lv_at hl 3 rfl) ?_
      refine W_bind fun _ hck => ?_
      refine W_bind fun z8 hz => ?_
      refine w_after (cells1 := 0) (slots1 := 0) (w_runV E kV_CT_325 kc_X6_guestAt (t_Seating_guestAt l hfl G v7 a1 z6 r ((fun z => (.inl (some (.int z)), z6, r)) z8) (by rw [hz]; rfl)) ⟨Nat.le_of_ble_eq_true rfl, Nat.le_of_ble_eq_true rfl⟩ hw (w_recv E hw (by decide) ⟨_, _, rfl⟩ (ck_ok hck)) rfl hl.1 rfl (Nat.le_of_ble_eq_true rfl) dX11_table_54 ⟨Nat.le_of_ble_eq_true rfl, Nat.le_of_ble_eq_true rfl⟩) hw rfl (Nat.le_of_ble_eq_true rfl) (Nat.le_of_ble_eq_true rfl) (fun H locs hw => ?_)
      refine W.eq (g2 := F0 m 57 ls [.int z8]) rfl ?_
      have hw : w_W G z6 r s H locs := hw
      exact p_iret E hw hr (Nat.le_of_ble_eq_true rfl) (Nat.le_of_ble_eq_true rfl) rfl dX11_table_57
    · refine lv_aload_n hx hb dX11_table_39 rfl (lv_at hl 1 rfl) ?_
      refine gx_getR E hw kF_CT_44_10 (by decide) dX11_table_40 (fun v9 _ => ?_)
      refine gx_getI E hw kF_CT_322_6 (by decide) dX11_table_43 (fun v10 _ => ?_)
      refine lv_goto (tgt := 57) hx hb dX11_table_46 (by decide) ?_
      exact p_iret E hw hr (Nat.le_of_ble_eq_true rfl) (Nat.le_of_ble_eq_true rfl) rfl dX11_table_57
  · refine lv_bipush (v := (-3)) hx hb dX11_table_19 (by decide) ?_
    exact p_iret E hw hr (Nat.le_of_ble_eq_true rfl) (Nat.le_of_ble_eq_true rfl) rfl dX11_table_21
set_option maxHeartbeats 4000000 in
set_option maxRecDepth 100000 in
theorem t_Town_peopleTied (l : Launch) (hfl : l.stackTraces = false) (G : wG) (N : Nat) (this : Nat) (M : Mem) (r : Rho) : Ctr l yX8_peopleTied (wWs yX8_peopleTied cX8_peopleTied 3 (some .int)) rm_Town_peopleTied rm_Town_peopleTied.cells rm_Town_peopleTied.slots G [.ref this] M r ((f_Town_peopleTied N this M).map (fun z => (.inl (some (.int z)), M, r))) := by
  refine Ctr.ofF (own := "CheekTown$Town") (by decide +kernel) hfl rfl (Nat.le_of_ble_eq_true rfl) (fun p e s m args below meth c E hno hr hnm hw ls hl => ?_)
  obtain ⟨hx, hb, hts, hown, hml, hTT, -⟩ := id E
  have hl : lv_has ls 3 [(0, .ref this)] := hl
  obtain ⟨H, hH⟩ : ∃ H, H = s.heap := ⟨_, rfl⟩
  obtain ⟨locs, hlo⟩ : ∃ L : List Loc, L = [] := ⟨_, rfl⟩
  rw [← hH, ← hlo]
  rw [← hlo] at hw
  replace hw : w_W G M r s H locs := by rw [hH]; exact hw
  have w4 : ∀ (n : Nat) (x1 : Int32) (x2 : Int32) (H : Heap) (locs : List Loc) (ls : Array Slot), w_W G M r s H locs → lv_has ls 3 [(0, .ref this), (1, .int x1), (2, .int x2)] → W p l e rm_Town_peopleTied s m args below meth c H locs 0 0 (PQ G below args s rm_Town_peopleTied.cells rm_Town_peopleTied.slots (fun z => (.inl (some (.int z)), M, r)) (f_Town_peopleTied_4 N this M n x1 x2)) (F0 m 4 ls []) := by
    intro n
    induction n with
    | zero => intros; exact W_none
    | succ n ih =>
      intro x1 x2 H locs ls hw hl
      rw [f_Town_peopleTied_4]
      refine lv_iload_n hx hb dX8_peopleTied_4 rfl (lv_at hl 2 rfl) ?_
      refine lv_aload_n hx hb dX8_peopleTied_5 rfl (lv_at hl 0 rfl) ?_
      refine gx_getI E hw kF_Town_50_7 (by decide) dX8_peopleTied_6 (fun v1 _ => ?_)
      refine cx_icmp_ge (tgt := 30) E dX8_peopleTied_9 (by decide) (fun _ => ?_) (fun _ => ?_)
      · refine lv_iload_n hx hb dX8_peopleTied_30 rfl (lv_at hl 1 rfl) ?_
        exact p_iret E hw hr (Nat.le_of_ble_eq_true rfl) (Nat.le_of_ble_eq_true rfl) rfl dX8_peopleTied_31
      · refine lv_iload_n hx hb dX8_peopleTied_12 rfl (lv_at hl 1 rfl) ?_
        refine lv_aload_n hx hb dX8_peopleTied_13 rfl (lv_at hl 0 rfl) ?_
        refine gx_getR E hw kF_Town_20_7 (by decide) dX8_peopleTied_14 (fun v2 _ => ?_)
        refine lv_iload_n hx hb dX8_peopleTied_17 rfl (lv_at hl 2 rfl) ?_
        refine gx_aald E hw (by decide) dX8_peopleTied_18 (fun v3 _ => ?_)
        refine gx_getI E hw kF_Town_99_5 (by decide) dX8_peopleTied_19 (fun v4 _ => ?_)
        refine lv_ior hx hb dX8_peopleTied_22 ?_
        refine lv_istore_n (lv' := [(1, .int (x1 ||| v4)), (0, .ref this), (2, .int x2)]) hx hb dX8_peopleTied_23 rfl hl (by decide) rfl (fun ls hl => ?_)
        refine lv_iinc (v := x2 + 1) (lv' := [(2, .int (x2 + 1)), (1, .int (x1 ||| v4)), (0, .ref this)]) hx hb dX8_peopleTied_24 hl (k := 2) rfl rfl (by decide) rfl (fun ls hl => ?_)
        refine lv_goto (tgt := 4) hx hb dX8_peopleTied_27 (by decide) ?_
        exact ih (x1 ||| v4) (x2 + 1) _ _ _ hw (lv_sub hl [2, 1, 0] rfl)
  unfold f_Town_peopleTied
  refine lv_iconst (v := 0) hx hb dX8_peopleTied_0 (by decide) ?_
  refine lv_istore_n (lv' := [(1, .int 0), (0, .ref this)]) hx hb dX8_peopleTied_1 rfl hl (by decide) rfl (fun ls hl => ?_)
  refine lv_iconst (v := 0) hx hb dX8_peopleTied_2 (by decide) ?_
  refine lv_istore_n (lv' := [(2, .int 0), (1, .int 0), (0, .ref this)]) hx hb dX8_peopleTied_3 rfl hl (by decide) rfl (fun ls hl => ?_)
  exact w4  N 0 0 _ _ _ hw (lv_sub hl [2, 1, 0] rfl)
set_option maxHeartbeats 4000000 in
set_option maxRecDepth 100000 in
theorem t_CT_mostPairs (l : Launch) (hfl : l.stackTraces = false) (G : wG) (N : Nat) : ∀ (d : Nat) (a0 : Nat) (a1 : Int32) (a2 : Int32) (M : Mem) (r : Rho), Ctr l yX11_mostPairs (wWs yX11_mostPairs cX11_mostPairs 6 (some .int)) (rm_CT_mostPairs d) (rm_CT_mostPairs d).cells (rm_CT_mostPairs d).slots G [.ref a0, .int a1, .int a2] M r ((f_CT_mostPairs N d a0 a1 a2 M).map (fun z => (.inl (some (.int z)), M, r))) := by
  intro d
  induction d with
  | zero => intros; intro x hx; cases hx
  | succ d ihd =>
    intro a0 a1 a2 M r
    refine Ctr.ofF (own := "CheekTown") (by decide +kernel) hfl rfl (Nat.le_of_ble_eq_true rfl) (fun p e s m args below meth c E hno hr hnm hw ls hl => ?_)
    obtain ⟨hx, hb, hts, hown, hml, hTT, -⟩ := id E
    have hl : lv_has ls 6 [(0, .ref a0), (1, .int a1), (2, .int a2)] := hl
    obtain ⟨H, hH⟩ : ∃ H, H = s.heap := ⟨_, rfl⟩
    obtain ⟨locs, hlo⟩ : ∃ L : List Loc, L = [] := ⟨_, rfl⟩
    rw [← hH, ← hlo]
    rw [← hlo] at hw
    replace hw : w_W G M r s H locs := by rw [hH]; exact hw
    have w51 : ∀ (n : Nat) (x3 : Int32) (x4 : Int32) (x5 : Int32) (H : Heap) (locs : List Loc) (ls : Array Slot), w_W G M r s H locs → lv_has ls 6 [(0, .ref a0), (1, .int a1), (2, .int a2), (3, .int x3), (4, .int x4), (5, .int x5)] → W p l e (rm_CT_mostPairs (d + 1)) s m args below meth c H locs 0 0 (PQ G below args s (rm_CT_mostPairs (d + 1)).cells (rm_CT_mostPairs (d + 1)).slots (fun z => (.inl (some (.int z)), M, r)) (f_CT_mostPairs_51 N (f_CT_mostPairs N d) a0 a1 a2 M n x3 x4 x5)) (F0 m 51 ls []) := by
      intro n
      induction n with
      | zero => intros; exact W_none
      | succ n ih =>
        intro x3 x4 x5 H locs ls hw hl
        rw [f_CT_mostPairs_51]
        refine lv_iload hx hb dX11_mostPairs_51 (lv_at hl 5 rfl) ?_
        refine lv_aload_n hx hb dX11_mostPairs_53 rfl (lv_at hl 0 rfl) ?_
        refine gx_getI E hw kF_CT_127_7 (by decide) dX11_mostPairs_54 (fun v7 _ => ?_)
        refine cx_icmp_ge (tgt := 98) E dX11_mostPairs_57 (by decide) (fun _ => ?_) (fun _ => ?_)
        · refine lv_iload_n hx hb dX11_mostPairs_98 rfl (lv_at hl 3 rfl) ?_
          exact p_iret E hw hr (Nat.le_of_ble_eq_true rfl) (Nat.le_of_ble_eq_true rfl) rfl dX11_mostPairs_99
        · refine lv_iload hx hb dX11_mostPairs_60 (lv_at hl 4 rfl) ?_
          refine lv_iload hx hb dX11_mostPairs_62 (lv_at hl 5 rfl) ?_
          refine W_bind fun z8 hz => ?_
          refine w_after (cells1 := 0) (slots1 := 0) (w_runS E kS_CT_252 kc_X11_isIn (t_CT_isIn l hfl G x4 x5 M r ((fun z => (.inl (some (.int z)), M, r)) z8) (by rw [hz]; rfl)) ⟨by show 0 + 1 ≤ 60 + 12 * (d + 1) + 0; omega, by show 8 + (2 + 11) + (0) ≤ 3000 + 400 * (d + 1) + 0; omega⟩ hw rfl hl.1 rfl (Nat.le_of_ble_eq_true rfl) dX11_mostPairs_64 ⟨Nat.le_refl _, Nat.le_refl _⟩) hw rfl (Nat.le_refl _) (Nat.le_refl _) (fun H locs hw => ?_)
          refine W.eq (g2 := F0 m 67 ls [.int z8]) rfl ?_
          have hw : w_W G M r s H locs := hw
          refine cx_if_eq (tgt := 92) E dX11_mostPairs_67 (by decide) (fun _ => ?_) (fun _ => ?_)
          · refine lv_iinc (v := x5 + 1) (lv' := [(5, .int (x5 + 1)), (0, .ref a0), (1, .int a1), (2, .int a2), (3, .int x3), (4, .int x4)]) hx hb dX11_mostPairs_92 hl (k := 5) rfl rfl (by decide) rfl (fun ls hl => ?_)
            refine lv_goto (tgt := 51) hx hb dX11_mostPairs_95 (by decide) ?_
            exact ih x3 x4 (x5 + 1) _ _ _ hw (lv_sub hl [1, 2, 3, 4, 5, 0] rfl)
          · refine lv_iload_n hx hb dX11_mostPairs_70 rfl (lv_at hl 3 rfl) ?_
            refine lv_iconst (v := 1) hx hb dX11_mostPairs_71 (by decide) ?_
            refine lv_aload_n hx hb dX11_mostPairs_72 rfl (lv_at hl 0 rfl) ?_
            refine lv_iload_n hx hb dX11_mostPairs_73 rfl (lv_at hl 1 rfl) ?_
            refine lv_iconst (v := 1) hx hb dX11_mostPairs_74 (by decide) ?_
            refine lv_iadd hx hb dX11_mostPairs_75 ?_
            refine lv_iload_n hx hb dX11_mostPairs_76 rfl (lv_at hl 2 rfl) ?_
            refine lv_iconst (v := 1) hx hb dX11_mostPairs_77 (by decide) ?_
            refine lv_iload hx hb dX11_mostPairs_78 (lv_at hl 5 rfl) ?_
            refine lv_ishl hx hb dX11_mostPairs_80 ?_
            refine lv_iconst (v := (-1)) hx hb dX11_mostPairs_81 (by decide) ?_
            refine lv_ixor hx hb dX11_mostPairs_82 ?_
            refine lv_iand hx hb dX11_mostPairs_83 ?_
            refine W_bind fun z9 hz => ?_
            refine w_after (cells1 := 0) (slots1 := 0) (w_runS E kS_CT_331 kc_X11_mostPairs (ihd a0 (a1 + 1) (a2 &&& ((1 <<< (x5 &&& 31)) ^^^ (-1))) M r ((fun z => (.inl (some (.int z)), M, r)) z9) (by rw [hz]; rfl)) ⟨by show 60 + 12 * d + 0 + 1 ≤ 60 + 12 * (d + 1) + 0; omega, by show 8 + (6 + 11) + (3000 + 400 * d + 0) ≤ 3000 + 400 * (d + 1) + 0; omega⟩ hw rfl hl.1 rfl (Nat.le_of_ble_eq_true rfl) dX11_mostPairs_84 ⟨Nat.le_refl _, Nat.le_refl _⟩) hw rfl (Nat.le_refl _) (Nat.le_refl _) (fun H locs hw => ?_)
            refine W.eq (g2 := F0 m 87 ls [.int z9, .int 1, .int x3]) rfl ?_
            have hw : w_W G M r s H locs := hw
            refine lv_iadd hx hb dX11_mostPairs_87 ?_
            refine W_bind fun z10 hz => ?_
            refine w_after (cells1 := 0) (slots1 := 0) (w_runS E kS_CT_335 kc_J9_max_7cf53 (t_Math_max l hfl G x3 (1 + z9) M r ((fun z => (.inl (some (.int z)), M, r)) z10) (by rw [hz]; rfl)) ⟨by show 0 + 1 ≤ 60 + 12 * (d + 1) + 0; omega, by show 8 + (2 + 11) + (0) ≤ 3000 + 400 * (d + 1) + 0; omega⟩ hw rfl hl.1 rfl (Nat.le_of_ble_eq_true rfl) dX11_mostPairs_88 ⟨Nat.le_refl _, Nat.le_refl _⟩) hw rfl (Nat.le_refl _) (Nat.le_refl _) (fun H locs hw => ?_)
            refine W.eq (g2 := F0 m 91 ls [.int z10]) rfl ?_
            have hw : w_W G M r s H locs := hw
            refine lv_istore_n (lv' := [(3, .int z10), (0, .ref a0), (1, .int a1), (2, .int a2), (4, .int x4), (5, .int x5)]) hx hb dX11_mostPairs_91 rfl hl (by decide) rfl (fun ls hl => ?_)
            refine lv_iinc (v := x5 + 1) (lv' := [(5, .int (x5 + 1)), (3, .int z10), (0, .ref a0), (1, .int a1), (2, .int a2), (4, .int x4)]) hx hb dX11_mostPairs_92 hl (k := 5) rfl rfl (by decide) rfl (fun ls hl => ?_)
            refine lv_goto (tgt := 51) hx hb dX11_mostPairs_95 (by decide) ?_
            exact ih z10 x4 (x5 + 1) _ _ _ hw (lv_sub hl [2, 3, 4, 1, 5, 0] rfl)
    rw [f_CT_mostPairs]
    refine lv_iload_n hx hb dX11_mostPairs_0 rfl (lv_at hl 1 rfl) ?_
    refine cx_if_lt (tgt := 12) E dX11_mostPairs_1 (by decide) (fun _ => ?_) (fun _ => ?_)
    · refine lv_iconst (v := 0) hx hb dX11_mostPairs_12 (by decide) ?_
      exact p_iret E hw hr (Nat.le_of_ble_eq_true rfl) (Nat.le_of_ble_eq_true rfl) rfl dX11_mostPairs_13
    · refine lv_iload_n hx hb dX11_mostPairs_4 rfl (lv_at hl 1 rfl) ?_
      refine lv_aload_n hx hb dX11_mostPairs_5 rfl (lv_at hl 0 rfl) ?_
      refine gx_getI E hw kF_CT_127_7 (by decide) dX11_mostPairs_6 (fun v1 _ => ?_)
      refine cx_icmp_lt (tgt := 14) E dX11_mostPairs_9 (by decide) (fun _ => ?_) (fun _ => ?_)
      · refine lv_aload_n hx hb dX11_mostPairs_14 rfl (lv_at hl 0 rfl) ?_
        refine lv_iload_n hx hb dX11_mostPairs_15 rfl (lv_at hl 1 rfl) ?_
        refine lv_iconst (v := 1) hx hb dX11_mostPairs_16 (by decide) ?_
        refine lv_iadd hx hb dX11_mostPairs_17 ?_
        refine lv_iload_n hx hb dX11_mostPairs_18 rfl (lv_at hl 2 rfl) ?_
        refine W_bind fun z2 hz => ?_
        refine w_after (cells1 := 0) (slots1 := 0) (w_runS E kS_CT_331 kc_X11_mostPairs (ihd a0 (a1 + 1) a2 M r ((fun z => (.inl (some (.int z)), M, r)) z2) (by rw [hz]; rfl)) ⟨by show 60 + 12 * d + 0 + 1 ≤ 60 + 12 * (d + 1) + 0; omega, by show 8 + (6 + 11) + (3000 + 400 * d + 0) ≤ 3000 + 400 * (d + 1) + 0; omega⟩ hw rfl hl.1 rfl (Nat.le_of_ble_eq_true rfl) dX11_mostPairs_19 ⟨Nat.le_refl _, Nat.le_refl _⟩) hw rfl (Nat.le_refl _) (Nat.le_refl _) (fun H locs hw => ?_)
        refine W.eq (g2 := F0 m 22 ls [.int z2]) rfl ?_
        have hw : w_W G M r s H locs := hw
        refine lv_istore_n (lv' := [(3, .int z2), (0, .ref a0), (1, .int a1), (2, .int a2)]) hx hb dX11_mostPairs_22 rfl hl (by decide) rfl (fun ls hl => ?_)
        refine lv_iload_n hx hb dX11_mostPairs_23 rfl (lv_at hl 3 rfl) ?_
        refine lv_iload_n hx hb dX11_mostPairs_24 rfl (lv_at hl 2 rfl) ?_
        refine W_bind fun z3 hz => ?_
        refine w_after (cells1 := 0) (slots1 := 0) (w_runS E kS_CT_252 kc_X11_isIn (t_CT_isIn l hfl G a2 a1 M r ((fun z => (.inl (some (.int z)), M, r)) z3) (by rw [hz]; rfl)) ⟨by show 0 + 1 ≤ 60 + 12 * (d + 1) + 0; omega, by show 8 + (2 + 11) + (0) ≤ 3000 + 400 * (d + 1) + 0; omega⟩ hw rfl hl.1 rfl (Nat.le_of_ble_eq_true rfl) dX11_mostPairs_25 ⟨Nat.le_refl _, Nat.le_refl _⟩) hw rfl (Nat.le_refl _) (Nat.le_refl _) (fun H locs hw => ?_)
        refine W.eq (g2 := F0 m 28 ls [.int z3]) rfl ?_
        have hw : w_W G M r s H locs := hw
        refine cx_if_ne (tgt := 33) E dX11_mostPairs_28 (by decide) (fun _ => ?_) (fun _ => ?_)
        · refine lv_aload_n hx hb dX11_mostPairs_33 rfl (lv_at hl 1 rfl) ?_
          refine gx_getR E hw kF_CT_172_7 (by decide) dX11_mostPairs_34 (fun v4 _ => ?_)
          refine lv_iload_n hx hb dX11_mostPairs_37 rfl (lv_at hl 2 rfl) ?_
          refine gx_aald E hw (by decide) dX11_mostPairs_38 (fun v5 _ => ?_)
          refine gx_getI E hw kF_CT_194_5 (by decide) dX11_mostPairs_39 (fun v6 _ => ?_)
          refine lv_iload_n hx hb dX11_mostPairs_42 rfl (lv_at hl 3 rfl) ?_
          refine lv_iand hx hb dX11_mostPairs_43 ?_
          refine lv_istore (lv' := [(4, .int (v6 &&& a2)), (3, .int z2), (0, .ref a0), (1, .int a1), (2, .int a2)]) hx hb dX11_mostPairs_44 hl (by decide) rfl (fun ls hl => ?_)
          refine lv_iload_n hx hb dX11_mostPairs_46 rfl (lv_at hl 3 rfl) ?_
          refine lv_iconst (v := 1) hx hb dX11_mostPairs_47 (by decide) ?_
          refine lv_iadd hx hb dX11_mostPairs_48 ?_
          refine lv_istore (lv' := [(5, .int (a1 + 1)), (4, .int (v6 &&& a2)), (3, .int z2), (0, .ref a0), (1, .int a1), (2, .int a2)]) hx hb dX11_mostPairs_49 hl (by decide) rfl (fun ls hl => ?_)
          exact w51  N z2 (v6 &&& a2) (a1 + 1) _ _ _ hw (lv_sub hl [3, 4, 5, 2, 1, 0] rfl)
        · refine lv_iload_n hx hb dX11_mostPairs_31 rfl (lv_at hl 0 rfl) ?_
          exact p_iret E hw hr (Nat.le_of_ble_eq_true rfl) (Nat.le_of_ble_eq_true rfl) rfl dX11_mostPairs_32
      · refine lv_iconst (v := 0) hx hb dX11_mostPairs_12 (by decide) ?_
        exact p_iret E hw hr (Nat.le_of_ble_eq_true rfl) (Nat.le_of_ble_eq_true rfl) rfl dX11_mostPairs_13
set_option maxHeartbeats 4000000 in
set_option maxRecDepth 100000 in
theorem t_CT_pairs (l : Launch) (hfl : l.stackTraces = false) (G : wG) (N : Nat) (this : Nat) (a0 : Int32) (M : Mem) (r : Rho) : Ctr l yX11_pairs (wWs yX11_pairs cX11_pairs 6 (some .int)) rm_CT_pairs rm_CT_pairs.cells rm_CT_pairs.slots G [.ref this, .int a0] M r ((f_CT_pairs N this a0 M).map (fun z => (.inl (some (.int z)), M, r))) := by
  refine Ctr.ofF (own := "CheekTown") (by decide +kernel) hfl rfl (Nat.le_of_ble_eq_true rfl) (fun p e s m args below meth c E hno hr hnm hw ls hl => ?_)
  obtain ⟨hx, hb, hts, hown, hml, hTT, -⟩ := id E
  have hl : lv_has ls 6 [(0, .ref this), (1, .int a0)] := hl
  obtain ⟨H, hH⟩ : ∃ H, H = s.heap := ⟨_, rfl⟩
  obtain ⟨locs, hlo⟩ : ∃ L : List Loc, L = [] := ⟨_, rfl⟩
  rw [← hH, ← hlo]
  rw [← hlo] at hw
  replace hw : w_W G M r s H locs := by rw [hH]; exact hw
  have w27 : ∀ (n : Nat) (x2 : Int32) (x3 : Int32) (x4 : Int32) (H : Heap) (locs : List Loc) (ls : Array Slot), w_W G M r s H locs → lv_has ls 6 [(0, .ref this), (2, .int x2), (3, .int x3), (4, .int x4)] → W p l e rm_CT_pairs s m args below meth c H locs 0 0 (PQ G below args s rm_CT_pairs.cells rm_CT_pairs.slots (fun z => (.inl (some (.int z)), M, r)) (f_CT_pairs_27 N this a0 M n x2 x3 x4)) (F0 m 27 ls []) := by
    intro n
    induction n with
    | zero => intros; exact W_none
    | succ n ih =>
      intro x2 x3 x4 H locs ls hw hl
      rw [f_CT_pairs_27]
      refine lv_iload hx hb dX11_pairs_27 (lv_at hl 3 rfl) ?_
      refine lv_aload_n hx hb dX11_pairs_29 rfl (lv_at hl 0 rfl) ?_
      refine gx_getR E hw kF_CT_20_10 (by decide) dX11_pairs_30 (fun v5 _ => ?_)
      refine gx_getI E hw kF_CT_137_7 (by decide) dX11_pairs_33 (fun v6 _ => ?_)
      refine cx_icmp_ge (tgt := 111) E dX11_pairs_36 (by decide) (fun _ => ?_) (fun _ => ?_)
      · refine lv_iload_n hx hb dX11_pairs_111 rfl (lv_at hl 1 rfl) ?_
        exact p_iret E hw hr (Nat.le_of_ble_eq_true rfl) (Nat.le_of_ble_eq_true rfl) rfl dX11_pairs_112
      · refine lv_iconst (v := 1) hx hb dX11_pairs_39 (by decide) ?_
        refine lv_aload_n hx hb dX11_pairs_40 rfl (lv_at hl 0 rfl) ?_
        refine gx_getR E hw kF_CT_20_10 (by decide) dX11_pairs_41 (fun v7 _ => ?_)
        refine gx_getR E hw kF_CT_215_7 (by decide) dX11_pairs_44 (fun v8 _ => ?_)
        refine lv_iload hx hb dX11_pairs_47 (lv_at hl 3 rfl) ?_
        refine gx_iald E hw dX11_pairs_49 (fun v9 _ => ?_)
        refine lv_ishl hx hb dX11_pairs_50 ?_
        refine lv_iconst (v := 1) hx hb dX11_pairs_51 (by decide) ?_
        refine lv_aload_n hx hb dX11_pairs_52 rfl (lv_at hl 0 rfl) ?_
        refine gx_getR E hw kF_CT_20_10 (by decide) dX11_pairs_53 (fun v10 _ => ?_)
        refine gx_getR E hw kF_CT_212_7 (by decide) dX11_pairs_56 (fun v11 _ => ?_)
        refine lv_iload hx hb dX11_pairs_59 (lv_at hl 3 rfl) ?_
        refine gx_iald E hw dX11_pairs_61 (fun v12 _ => ?_)
        refine lv_ishl hx hb dX11_pairs_62 ?_
        refine lv_ior hx hb dX11_pairs_63 ?_
        refine lv_istore (lv' := [(5, .int ((1 <<< (v9 &&& 31)) ||| (1 <<< (v12 &&& 31)))), (0, .ref this), (2, .int x2), (3, .int x3), (4, .int x4)]) hx hb dX11_pairs_64 hl (by decide) rfl (fun ls hl => ?_)
        refine lv_iload_n hx hb dX11_pairs_66 rfl (lv_at hl 2 rfl) ?_
        refine lv_iload hx hb dX11_pairs_67 (lv_at hl 0 rfl) ?_
        refine lv_iand hx hb dX11_pairs_69 ?_
        refine lv_iload hx hb dX11_pairs_70 (lv_at hl 0 rfl) ?_
        refine cx_icmp_ne (tgt := 105) E dX11_pairs_72 (by decide) (fun _ => ?_) (fun _ => ?_)
        · refine lv_iinc (v := x4 + 1) (lv' := [(4, .int (x4 + 1)), (5, .int ((1 <<< (v9 &&& 31)) ||| (1 <<< (v12 &&& 31)))), (0, .ref this), (2, .int x2), (3, .int x3)]) hx hb dX11_pairs_105 hl (k := 4) rfl rfl (by decide) rfl (fun ls hl => ?_)
          refine lv_goto (tgt := 27) hx hb dX11_pairs_108 (by decide) ?_
          exact ih x2 x3 (x4 + 1) _ _ _ hw (lv_sub hl [2, 3, 4, 0] rfl)
        · refine lv_aload_n hx hb dX11_pairs_75 rfl (lv_at hl 1 rfl) ?_
          refine gx_getR E hw kF_CT_20_10 (by decide) dX11_pairs_76 (fun v13 _ => ?_)
          refine lv_iconst (v := 0) hx hb dX11_pairs_79 (by decide) ?_
          refine lv_iload_n hx hb dX11_pairs_80 rfl (lv_at hl 2 rfl) ?_
          refine lv_iload hx hb dX11_pairs_81 (lv_at hl 0 rfl) ?_
          refine lv_iconst (v := (-1)) hx hb dX11_pairs_83 (by decide) ?_
          refine lv_ixor hx hb dX11_pairs_84 ?_
          refine lv_iand hx hb dX11_pairs_85 ?_
          refine W_bind fun z14 hz => ?_
          refine w_after (cells1 := 0) (slots1 := 0) (w_runS E kS_CT_331 kc_X11_mostPairs (t_CT_mostPairs l hfl G N 12 v13 0 (x2 &&& (((1 <<< (v9 &&& 31)) ||| (1 <<< (v12 &&& 31))) ^^^ (-1))) M r ((fun z => (.inl (some (.int z)), M, r)) z14) (by rw [hz]; rfl)) ⟨Nat.le_of_ble_eq_true rfl, Nat.le_of_ble_eq_true rfl⟩ hw rfl hl.1 rfl (Nat.le_of_ble_eq_true rfl) dX11_pairs_86 ⟨Nat.le_of_ble_eq_true rfl, Nat.le_of_ble_eq_true rfl⟩) hw rfl (Nat.le_of_ble_eq_true rfl) (Nat.le_of_ble_eq_true rfl) (fun H locs hw => ?_)
          refine W.eq (g2 := F0 m 89 ls [.int z14]) rfl ?_
          have hw : w_W G M r s H locs := hw
          refine lv_iload_n hx hb dX11_pairs_89 rfl (lv_at hl 3 rfl) ?_
          refine lv_iconst (v := 1) hx hb dX11_pairs_90 (by decide) ?_
          refine lv_isub hx hb dX11_pairs_91 ?_
          refine cx_icmp_ne (tgt := 105) E dX11_pairs_92 (by decide) (fun _ => ?_) (fun _ => ?_)
          · refine lv_iinc (v := x4 + 1) (lv' := [(4, .int (x4 + 1)), (5, .int ((1 <<< (v9 &&& 31)) ||| (1 <<< (v12 &&& 31)))), (0, .ref this), (2, .int x2), (3, .int x3)]) hx hb dX11_pairs_105 hl (k := 4) rfl rfl (by decide) rfl (fun ls hl => ?_)
            refine lv_goto (tgt := 27) hx hb dX11_pairs_108 (by decide) ?_
            exact ih x2 x3 (x4 + 1) _ _ _ hw (lv_sub hl [2, 3, 4, 0] rfl)
          · refine lv_iload_n hx hb dX11_pairs_95 rfl (lv_at hl 2 rfl) ?_
            refine lv_iload hx hb dX11_pairs_96 (lv_at hl 0 rfl) ?_
            refine lv_iconst (v := (-1)) hx hb dX11_pairs_98 (by decide) ?_
            refine lv_ixor hx hb dX11_pairs_99 ?_
            refine lv_iand hx hb dX11_pairs_100 ?_
            refine lv_istore_n (lv' := [(2, .int (x2 &&& (((1 <<< (v9 &&& 31)) ||| (1 <<< (v12 &&& 31))) ^^^ (-1)))), (5, .int ((1 <<< (v9 &&& 31)) ||| (1 <<< (v12 &&& 31)))), (0, .ref this), (3, .int x3), (4, .int x4)]) hx hb dX11_pairs_101 rfl hl (by decide) rfl (fun ls hl => ?_)
            refine lv_iinc (v := x3 + (-1)) (lv' := [(3, .int (x3 + (-1))), (2, .int (x2 &&& (((1 <<< (v9 &&& 31)) ||| (1 <<< (v12 &&& 31))) ^^^ (-1)))), (5, .int ((1 <<< (v9 &&& 31)) ||| (1 <<< (v12 &&& 31)))), (0, .ref this), (4, .int x4)]) hx hb dX11_pairs_102 hl (k := 3) rfl rfl (by decide) rfl (fun ls hl => ?_)
            refine lv_iinc (v := x4 + 1) (lv' := [(4, .int (x4 + 1)), (3, .int (x3 + (-1))), (2, .int (x2 &&& (((1 <<< (v9 &&& 31)) ||| (1 <<< (v12 &&& 31))) ^^^ (-1)))), (5, .int ((1 <<< (v9 &&& 31)) ||| (1 <<< (v12 &&& 31)))), (0, .ref this)]) hx hb dX11_pairs_105 hl (k := 4) rfl rfl (by decide) rfl (fun ls hl => ?_)
            refine lv_goto (tgt := 27) hx hb dX11_pairs_108 (by decide) ?_
            exact ih (x2 &&& (((1 <<< (v9 &&& 31)) ||| (1 <<< (v12 &&& 31))) ^^^ (-1))) (x3 + (-1)) (x4 + 1) _ _ _ hw (lv_sub hl [4, 2, 1, 0] rfl)
  unfold f_CT_pairs
  refine lv_aload_n hx hb dX11_pairs_0 rfl (lv_at hl 0 rfl) ?_
  refine gx_getR E hw kF_CT_20_10 (by decide) dX11_pairs_1 (fun v1 _ => ?_)
  refine W_bind fun _ hck => ?_
  refine W_bind fun z2 hz => ?_
  refine w_after (cells1 := 0) (slots1 := 0) (w_runV E kV_CT_328 kc_X8_peopleTied (t_Town_peopleTied l hfl G N v1 M r ((fun z => (.inl (some (.int z)), M, r)) z2) (by rw [hz]; rfl)) ⟨Nat.le_of_ble_eq_true rfl, Nat.le_of_ble_eq_true rfl⟩ hw (w_recv E hw (by decide) ⟨_, _, rfl⟩ (ck_ok hck)) rfl hl.1 rfl (Nat.le_of_ble_eq_true rfl) dX11_pairs_4 ⟨Nat.le_of_ble_eq_true rfl, Nat.le_of_ble_eq_true rfl⟩) hw rfl (Nat.le_of_ble_eq_true rfl) (Nat.le_of_ble_eq_true rfl) (fun H locs hw => ?_)
  refine W.eq (g2 := F0 m 7 ls [.int z2]) rfl ?_
  have hw : w_W G M r s H locs := hw
  refine lv_istore_n (lv' := [(2, .int z2), (0, .ref this), (1, .int a0)]) hx hb dX11_pairs_7 rfl hl (by decide) rfl (fun ls hl => ?_)
  refine lv_aload_n hx hb dX11_pairs_8 rfl (lv_at hl 1 rfl) ?_
  refine gx_getR E hw kF_CT_20_10 (by decide) dX11_pairs_9 (fun v3 _ => ?_)
  refine lv_iconst (v := 0) hx hb dX11_pairs_12 (by decide) ?_
  refine lv_iload_n hx hb dX11_pairs_13 rfl (lv_at hl 0 rfl) ?_
  refine W_bind fun z4 hz => ?_
  refine w_after (cells1 := 0) (slots1 := 0) (w_runS E kS_CT_331 kc_X11_mostPairs (t_CT_mostPairs l hfl G N 12 v3 0 z2 M r ((fun z => (.inl (some (.int z)), M, r)) z4) (by rw [hz]; rfl)) ⟨Nat.le_of_ble_eq_true rfl, Nat.le_of_ble_eq_true rfl⟩ hw rfl hl.1 rfl (Nat.le_of_ble_eq_true rfl) dX11_pairs_14 ⟨Nat.le_of_ble_eq_true rfl, Nat.le_of_ble_eq_true rfl⟩) hw rfl (Nat.le_of_ble_eq_true rfl) (Nat.le_of_ble_eq_true rfl) (fun H locs hw => ?_)
  refine W.eq (g2 := F0 m 17 ls [.int z4]) rfl ?_
  have hw : w_W G M r s H locs := hw
  refine lv_istore_n (lv' := [(3, .int z4), (2, .int z2), (0, .ref this), (1, .int a0)]) hx hb dX11_pairs_17 rfl hl (by decide) rfl (fun ls hl => ?_)
  refine lv_iload_n hx hb dX11_pairs_18 rfl (lv_at hl 3 rfl) ?_
  refine cx_if_ne (tgt := 24) E dX11_pairs_19 (by decide) (fun _ => ?_) (fun _ => ?_)
  · refine lv_iconst (v := 0) hx hb dX11_pairs_24 (by decide) ?_
    refine lv_istore (lv' := [(4, .int 0), (3, .int z4), (2, .int z2), (0, .ref this), (1, .int a0)]) hx hb dX11_pairs_25 hl (by decide) rfl (fun ls hl => ?_)
    exact w27  N z2 z4 0 _ _ _ hw (lv_sub hl [3, 2, 1, 0] rfl)
  · refine lv_iload_n hx hb dX11_pairs_22 rfl (lv_at hl 0 rfl) ?_
    exact p_iret E hw hr (Nat.le_of_ble_eq_true rfl) (Nat.le_of_ble_eq_true rfl) rfl dX11_pairs_23

