set_option maxHeartbeats 4000000 in
set_option maxRecDepth 100000 in
theorem t_Years_isAsTwoYearsAgo (l : Launch) (hfl : l.stackTraces = false) (G : wG) (N : Nat) (this : Nat) (M : Mem) (r : Rho) : Ctr l yX10_isAsTwoYearsAgo (wWs yX10_isAsTwoYearsAgo cX10_isAsTwoYearsAgo 2 (some .boolean)) rm_Years_isAsTwoYearsAgo rm_Years_isAsTwoYearsAgo.cells rm_Years_isAsTwoYearsAgo.slots G [.ref this] M r ((f_Years_isAsTwoYearsAgo N this M).map (fun z => (.inl (some (.int z)), M, r))) := by
  refine Ctr.ofF (own := "CheekTown$Years") (by decide +kernel) hfl rfl (Nat.le_of_ble_eq_true rfl) (fun p e s m args below meth c E hno hr hnm hw ls hl => ?_)
  obtain ⟨hx, hb, hts, hown, hml, hTT, -⟩ := id E
  have hl : lv_has ls 2 [(0, .ref this)] := hl
  obtain ⟨H, hH⟩ : ∃ H, H = s.heap := ⟨_, rfl⟩
  obtain ⟨locs, hlo⟩ : ∃ L : List Loc, L = [] := ⟨_, rfl⟩
  rw [← hH, ← hlo]
  rw [← hlo] at hw
  replace hw : w_W G M r s H locs := by rw [hH]; exact hw
  have w2 : ∀ (n : Nat) (x1 : Int32) (H : Heap) (locs : List Loc) (ls : Array Slot), w_W G M r s H locs → lv_has ls 2 [(0, .ref this), (1, .int x1)] → W p l e rm_Years_isAsTwoYearsAgo s m args below meth c H locs 0 0 (PQ G below args s rm_Years_isAsTwoYearsAgo.cells rm_Years_isAsTwoYearsAgo.slots (fun z => (.inl (some (.int z)), M, r)) (f_Years_isAsTwoYearsAgo_2 N this M n x1)) (F0 m 2 ls []) := by
    intro n
    induction n with
    | zero => intros; exact W_none
    | succ n ih =>
      intro x1 H locs ls hw hl
      rw [f_Years_isAsTwoYearsAgo_2]
      refine lv_iload_n hx hb dX10_isAsTwoYearsAgo_2 rfl (lv_at hl 1 rfl) ?_
      refine lv_aload_n hx hb dX10_isAsTwoYearsAgo_3 rfl (lv_at hl 0 rfl) ?_
      refine gx_getI E hw kF_Years_33_9 (by decide) dX10_isAsTwoYearsAgo_4 (fun v1 _ => ?_)
      refine cx_icmp_ge (tgt := 33) E dX10_isAsTwoYearsAgo_7 (by decide) (fun _ => ?_) (fun _ => ?_)
      · refine lv_iconst (v := 1) hx hb dX10_isAsTwoYearsAgo_33 (by decide) ?_
        exact p_zret E hw hr (by decide) (Nat.le_of_ble_eq_true rfl) (Nat.le_of_ble_eq_true rfl) rfl dX10_isAsTwoYearsAgo_34
      · refine lv_aload_n hx hb dX10_isAsTwoYearsAgo_10 rfl (lv_at hl 0 rfl) ?_
        refine gx_getR E hw kF_Years_15_9 (by decide) dX10_isAsTwoYearsAgo_11 (fun v2 _ => ?_)
        refine lv_iload_n hx hb dX10_isAsTwoYearsAgo_14 rfl (lv_at hl 1 rfl) ?_
        refine gx_iald E hw dX10_isAsTwoYearsAgo_15 (fun v3 _ => ?_)
        refine lv_aload_n hx hb dX10_isAsTwoYearsAgo_16 rfl (lv_at hl 0 rfl) ?_
        refine gx_getR E hw kF_Years_21_9 (by decide) dX10_isAsTwoYearsAgo_17 (fun v4 _ => ?_)
        refine lv_iload_n hx hb dX10_isAsTwoYearsAgo_20 rfl (lv_at hl 1 rfl) ?_
        refine gx_iald E hw dX10_isAsTwoYearsAgo_21 (fun v5 _ => ?_)
        refine cx_icmp_eq (tgt := 27) E dX10_isAsTwoYearsAgo_22 (by decide) (fun _ => ?_) (fun _ => ?_)
        · refine lv_iinc (v := x1 + 1) (lv' := [(1, .int (x1 + 1)), (0, .ref this)]) hx hb dX10_isAsTwoYearsAgo_27 hl (k := 1) rfl rfl (by decide) rfl (fun ls hl => ?_)
          refine lv_goto (tgt := 2) hx hb dX10_isAsTwoYearsAgo_30 (by decide) ?_
          exact ih (x1 + 1) _ _ _ hw (lv_sub hl [1, 0] rfl)
        · refine lv_iconst (v := 0) hx hb dX10_isAsTwoYearsAgo_25 (by decide) ?_
          exact p_zret E hw hr (by decide) (Nat.le_of_ble_eq_true rfl) (Nat.le_of_ble_eq_true rfl) rfl dX10_isAsTwoYearsAgo_26
  unfold f_Years_isAsTwoYearsAgo
  refine lv_iconst (v := 0) hx hb dX10_isAsTwoYearsAgo_0 (by decide) ?_
  refine lv_istore_n (lv' := [(1, .int 0), (0, .ref this)]) hx hb dX10_isAsTwoYearsAgo_1 rfl hl (by decide) rfl (fun ls hl => ?_)
  exact w2  N 0 _ _ _ hw (lv_sub hl [1, 0] rfl)
set_option maxHeartbeats 4000000 in
set_option maxRecDepth 100000 in
theorem t_Years_passYears (l : Launch) (hfl : l.stackTraces = false) (G : wG) (N : Nat) (this : Nat) (a0 : Int32) (M : Mem) (r : Rho) : Ctr l yX10_passYears (wWs yX10_passYears cX10_passYears 3 none) rm_Years_passYears rm_Years_passYears.cells rm_Years_passYears.slots G [.ref this, .int a0] M r ((f_Years_passYears N this a0 M).map (fun z => (.inl none, z, r))) := by
  refine Ctr.ofF (own := "CheekTown$Years") (by decide +kernel) hfl rfl (Nat.le_of_ble_eq_true rfl) (fun p e s m args below meth c E hno hr hnm hw ls hl => ?_)
  obtain ⟨hx, hb, hts, hown, hml, hTT, -⟩ := id E
  have hl : lv_has ls 3 [(0, .ref this), (1, .int a0)] := hl
  obtain ⟨H, hH⟩ : ∃ H, H = s.heap := ⟨_, rfl⟩
  obtain ⟨locs, hlo⟩ : ∃ L : List Loc, L = [] := ⟨_, rfl⟩
  rw [← hH, ← hlo]
  rw [← hlo] at hw
  replace hw : w_W G M r s H locs := by rw [hH]; exact hw
  have w2 : ∀ (n : Nat) (x2 : Int32) (M : Mem) (H : Heap) (locs : List Loc) (ls : Array Slot), w_W G M r s H locs → lv_has ls 3 [(0, .ref this), (1, .int a0), (2, .int x2)] → W p l e rm_Years_passYears s m args below meth c H locs 0 0 (PQ G below args s rm_Years_passYears.cells rm_Years_passYears.slots (fun z => (.inl none, z, r)) (f_Years_passYears_2 N this a0 n x2 M)) (F0 m 2 ls []) := by
    intro n
    induction n with
    | zero => intros; exact W_none
    | succ n ih =>
      intro x2 M H locs ls hw hl
      rw [f_Years_passYears_2]
      refine lv_iload_n hx hb dX10_passYears_2 rfl (lv_at hl 2 rfl) ?_
      refine lv_iload_n hx hb dX10_passYears_3 rfl (lv_at hl 1 rfl) ?_
      refine cx_icmp_ge (tgt := 40) E dX10_passYears_4 (by decide) (fun _ => ?_) (fun _ => ?_)
      · exact p_vret E hw hr (Nat.le_of_ble_eq_true rfl) (Nat.le_of_ble_eq_true rfl) rfl dX10_passYears_40
      · refine lv_aload_n hx hb dX10_passYears_7 rfl (lv_at hl 0 rfl) ?_
        refine W_bind fun _ hck => ?_
        refine W_bind fun z1 hz => ?_
        refine w_after (cells1 := 0) (slots1 := 0) (w_runV E kV_Years_55 kc_X10_passYear (t_Years_passYear l hfl G N this M r ((fun z => (.inl (some (.int z.1)), z.2, r)) z1) (by rw [hz]; rfl)) ⟨Nat.le_of_ble_eq_true rfl, Nat.le_of_ble_eq_true rfl⟩ hw (w_recv E hw (by decide) ⟨_, _, rfl⟩ (ck_ok hck)) rfl hl.1 rfl (Nat.le_of_ble_eq_true rfl) dX10_passYears_8 ⟨Nat.le_of_ble_eq_true rfl, Nat.le_of_ble_eq_true rfl⟩) hw rfl (Nat.le_of_ble_eq_true rfl) (Nat.le_of_ble_eq_true rfl) (fun H locs hw => ?_)
        refine W.eq (g2 := F0 m 11 ls [.int z1.1]) rfl ?_
        have hw : w_W G z1.2 r s H locs := hw
        refine cx_if_ne (tgt := 15) E dX10_passYears_11 (by decide) (fun _ => ?_) (fun _ => ?_)
        · refine lv_aload_n hx hb dX10_passYears_15 rfl (lv_at hl 0 rfl) ?_
          refine W_bind fun _ hck => ?_
          refine W_bind fun z2 hz => ?_
          refine w_after (cells1 := 0) (slots1 := 0) (w_runV E kV_Years_59 kc_X10_isAsTwoYearsAgo (t_Years_isAsTwoYearsAgo l hfl G N this z1.2 r ((fun z => (.inl (some (.int z)), z1.2, r)) z2) (by rw [hz]; rfl)) ⟨Nat.le_of_ble_eq_true rfl, Nat.le_of_ble_eq_true rfl⟩ hw (w_recv E hw (by decide) ⟨_, _, rfl⟩ (ck_ok hck)) rfl hl.1 rfl (Nat.le_of_ble_eq_true rfl) dX10_passYears_16 ⟨Nat.le_of_ble_eq_true rfl, Nat.le_of_ble_eq_true rfl⟩) hw rfl (Nat.le_of_ble_eq_true rfl) (Nat.le_of_ble_eq_true rfl) (fun H locs hw => ?_)
          refine W.eq (g2 := F0 m 19 ls [.int z2]) rfl ?_
          have hw : w_W G z1.2 r s H locs := hw
          refine cx_if_eq (tgt := 34) E dX10_passYears_19 (by decide) (fun _ => ?_) (fun _ => ?_)
          · refine lv_iinc (v := x2 + 1) (lv' := [(2, .int (x2 + 1)), (0, .ref this), (1, .int a0)]) hx hb dX10_passYears_34 hl (k := 2) rfl rfl (by decide) rfl (fun ls hl => ?_)
            refine lv_goto (tgt := 2) hx hb dX10_passYears_37 (by decide) ?_
            exact ih (x2 + 1) z1.2 _ _ _ hw (lv_sub hl [1, 2, 0] rfl)
          · refine lv_iload_n hx hb dX10_passYears_22 rfl (lv_at hl 2 rfl) ?_
            refine lv_iload_n hx hb dX10_passYears_23 rfl (lv_at hl 1 rfl) ?_
            refine lv_iconst (v := 1) hx hb dX10_passYears_24 (by decide) ?_
            refine lv_isub hx hb dX10_passYears_25 ?_
            refine lv_iload_n hx hb dX10_passYears_26 rfl (lv_at hl 2 rfl) ?_
            refine lv_isub hx hb dX10_passYears_27 ?_
            refine lv_iconst (v := 2) hx hb dX10_passYears_28 (by decide) ?_
            refine lv_idiv hx hb dX10_passYears_29 (by decide) ?_
            refine lv_iconst (v := 2) hx hb dX10_passYears_30 (by decide) ?_
            refine lv_imul hx hb dX10_passYears_31 ?_
            refine lv_iadd hx hb dX10_passYears_32 ?_
            refine lv_istore_n (lv' := [(2, .int (x2 + ((((a0 - 1) - x2) / 2) * 2))), (0, .ref this), (1, .int a0)]) hx hb dX10_passYears_33 rfl hl (by decide) rfl (fun ls hl => ?_)
            refine lv_iinc (v := (x2 + ((((a0 - 1) - x2) / 2) * 2)) + 1) (lv' := [(2, .int ((x2 + ((((a0 - 1) - x2) / 2) * 2)) + 1)), (0, .ref this), (1, .int a0)]) hx hb dX10_passYears_34 hl (k := 0) rfl rfl (by decide) rfl (fun ls hl => ?_)
            refine lv_goto (tgt := 2) hx hb dX10_passYears_37 (by decide) ?_
            exact ih ((x2 + ((((a0 - 1) - x2) / 2) * 2)) + 1) z1.2 _ _ _ hw (lv_sub hl [1, 2, 0] rfl)
        · exact p_vret E hw hr (Nat.le_of_ble_eq_true rfl) (Nat.le_of_ble_eq_true rfl) rfl dX10_passYears_14
  unfold f_Years_passYears
  refine lv_iconst (v := 0) hx hb dX10_passYears_0 (by decide) ?_
  refine lv_istore_n (lv' := [(2, .int 0), (0, .ref this), (1, .int a0)]) hx hb dX10_passYears_1 rfl hl (by decide) rfl (fun ls hl => ?_)
  exact w2  N 0 M _ _ _ hw (lv_sub hl [1, 2, 0] rfl)
set_option maxHeartbeats 4000000 in
set_option maxRecDepth 100000 in
theorem t_Years_kinds (l : Launch) (hfl : l.stackTraces = false) (G : wG) (N : Nat) (this : Nat) (M : Mem) (r : Rho) : Ctr l yX10_kinds (wWs yX10_kinds cX10_kinds 3 (some .int)) rm_Years_kinds rm_Years_kinds.cells rm_Years_kinds.slots G [.ref this] M r ((f_Years_kinds N this M).map (fun z => (.inl (some (.int z)), M, r))) := by
  refine Ctr.ofF (own := "CheekTown$Years") (by decide +kernel) hfl rfl (Nat.le_of_ble_eq_true rfl) (fun p e s m args below meth c E hno hr hnm hw ls hl => ?_)
  obtain ⟨hx, hb, hts, hown, hml, hTT, -⟩ := id E
  have hl : lv_has ls 3 [(0, .ref this)] := hl
  obtain ⟨H, hH⟩ : ∃ H, H = s.heap := ⟨_, rfl⟩
  obtain ⟨locs, hlo⟩ : ∃ L : List Loc, L = [] := ⟨_, rfl⟩
  rw [← hH, ← hlo]
  rw [← hlo] at hw
  replace hw : w_W G M r s H locs := by rw [hH]; exact hw
  have w4 : ∀ (n : Nat) (x1 : Int32) (x2 : Int32) (H : Heap) (locs : List Loc) (ls : Array Slot), w_W G M r s H locs → lv_has ls 3 [(0, .ref this), (1, .int x1), (2, .int x2)] → W p l e rm_Years_kinds s m args below meth c H locs 0 0 (PQ G below args s rm_Years_kinds.cells rm_Years_kinds.slots (fun z => (.inl (some (.int z)), M, r)) (f_Years_kinds_4 N this M n x1 x2)) (F0 m 4 ls []) := by
    intro n
    induction n with
    | zero => intros; exact W_none
    | succ n ih =>
      intro x1 x2 H locs ls hw hl
      rw [f_Years_kinds_4]
      refine lv_iload_n hx hb dX10_kinds_4 rfl (lv_at hl 2 rfl) ?_
      refine lv_aload_n hx hb dX10_kinds_5 rfl (lv_at hl 0 rfl) ?_
      refine gx_getI E hw kF_Years_33_9 (by decide) dX10_kinds_6 (fun v1 _ => ?_)
      refine cx_icmp_ge (tgt := 29) E dX10_kinds_9 (by decide) (fun _ => ?_) (fun _ => ?_)
      · refine lv_iload_n hx hb dX10_kinds_29 rfl (lv_at hl 1 rfl) ?_
        refine W_bind fun z2 hz => ?_
        refine w_after (cells1 := 0) (slots1 := 0) (w_runS E kS_Years_74 kc_J6_bitCount_0f7a4 (t_Integer_bitCount l hfl G x1 M r ((fun z => (.inl (some (.int z)), M, r)) z2) (by rw [hz]; rfl)) ⟨Nat.le_of_ble_eq_true rfl, Nat.le_of_ble_eq_true rfl⟩ hw rfl hl.1 rfl (Nat.le_of_ble_eq_true rfl) dX10_kinds_30 ⟨Nat.le_of_ble_eq_true rfl, Nat.le_of_ble_eq_true rfl⟩) hw rfl (Nat.le_of_ble_eq_true rfl) (Nat.le_of_ble_eq_true rfl) (fun H locs hw => ?_)
        refine W.eq (g2 := F0 m 33 ls [.int z2]) rfl ?_
        have hw : w_W G M r s H locs := hw
        exact p_iret E hw hr (Nat.le_of_ble_eq_true rfl) (Nat.le_of_ble_eq_true rfl) rfl dX10_kinds_33
      · refine lv_iload_n hx hb dX10_kinds_12 rfl (lv_at hl 1 rfl) ?_
        refine lv_iconst (v := 1) hx hb dX10_kinds_13 (by decide) ?_
        refine lv_aload_n hx hb dX10_kinds_14 rfl (lv_at hl 0 rfl) ?_
        refine gx_getR E hw kF_Years_15_9 (by decide) dX10_kinds_15 (fun v3 _ => ?_)
        refine lv_iload_n hx hb dX10_kinds_18 rfl (lv_at hl 2 rfl) ?_
        refine gx_iald E hw dX10_kinds_19 (fun v4 _ => ?_)
        refine lv_ishl hx hb dX10_kinds_20 ?_
        refine lv_ior hx hb dX10_kinds_21 ?_
        refine lv_istore_n (lv' := [(1, .int (x1 ||| (1 <<< (v4 &&& 31)))), (0, .ref this), (2, .int x2)]) hx hb dX10_kinds_22 rfl hl (by decide) rfl (fun ls hl => ?_)
        refine lv_iinc (v := x2 + 1) (lv' := [(2, .int (x2 + 1)), (1, .int (x1 ||| (1 <<< (v4 &&& 31)))), (0, .ref this)]) hx hb dX10_kinds_23 hl (k := 2) rfl rfl (by decide) rfl (fun ls hl => ?_)
        refine lv_goto (tgt := 4) hx hb dX10_kinds_26 (by decide) ?_
        exact ih (x1 ||| (1 <<< (v4 &&& 31))) (x2 + 1) _ _ _ hw (lv_sub hl [2, 1, 0] rfl)
  unfold f_Years_kinds
  refine lv_iconst (v := 0) hx hb dX10_kinds_0 (by decide) ?_
  refine lv_istore_n (lv' := [(1, .int 0), (0, .ref this)]) hx hb dX10_kinds_1 rfl hl (by decide) rfl (fun ls hl => ?_)
  refine lv_iconst (v := 0) hx hb dX10_kinds_2 (by decide) ?_
  refine lv_istore_n (lv' := [(2, .int 0), (1, .int 0), (0, .ref this)]) hx hb dX10_kinds_3 rfl hl (by decide) rfl (fun ls hl => ?_)
  exact w4  N 0 0 _ _ _ hw (lv_sub hl [2, 1, 0] rfl)
set_option maxHeartbeats 4000000 in
set_option maxRecDepth 100000 in
theorem t_Years_howManyHave (l : Launch) (hfl : l.stackTraces = false) (G : wG) (N : Nat) (this : Nat) (a0 : Int32) (M : Mem) (r : Rho) : Ctr l yX10_howManyHave (wWs yX10_howManyHave cX10_howManyHave 4 (some .int)) rm_Years_howManyHave rm_Years_howManyHave.cells rm_Years_howManyHave.slots G [.ref this, .int a0] M r ((f_Years_howManyHave N this a0 M).map (fun z => (.inl (some (.int z)), M, r))) := by
  refine Ctr.ofF (own := "CheekTown$Years") (by decide +kernel) hfl rfl (Nat.le_of_ble_eq_true rfl) (fun p e s m args below meth c E hno hr hnm hw ls hl => ?_)
  obtain ⟨hx, hb, hts, hown, hml, hTT, -⟩ := id E
  have hl : lv_has ls 4 [(0, .ref this), (1, .int a0)] := hl
  obtain ⟨H, hH⟩ : ∃ H, H = s.heap := ⟨_, rfl⟩
  obtain ⟨locs, hlo⟩ : ∃ L : List Loc, L = [] := ⟨_, rfl⟩
  rw [← hH, ← hlo]
  rw [← hlo] at hw
  replace hw : w_W G M r s H locs := by rw [hH]; exact hw
  have w28 : ∀ (k4 : Int32 → Int32 → Option (Int32)) (hk4 : ∀ (x2 : Int32) (x3 : Int32) (H : Heap) (locs : List Loc) (ls : Array Slot), w_W G M r s H locs → lv_has ls 4 [(0, .ref this), (1, .int a0), (2, .int x2), (3, .int x3)] → W p l e rm_Years_howManyHave s m args below meth c H locs 0 0 (PQ G below args s rm_Years_howManyHave.cells rm_Years_howManyHave.slots (fun z => (.inl (some (.int z)), M, r)) (k4 x2 x3)) (F0 m 4 ls [])) (x3 : Int32) (y0 : Int32) (y1 : Int32) (H : Heap) (locs : List Loc) (ls : Array Slot), w_W G M r s H locs → lv_has ls 4 [(0, .ref this), (1, .int a0), (3, .int x3)] → W p l e rm_Years_howManyHave s m args below meth c H locs 0 0 (PQ G below args s rm_Years_howManyHave.cells rm_Years_howManyHave.slots (fun z => (.inl (some (.int z)), M, r)) (f_Years_howManyHave_28 N this a0 M k4 x3 y0 y1)) (F0 m 28 ls [.int y1, .int y0]) := by
    intro k4 hk4 x3 y0 y1 H locs ls hw hl
    unfold f_Years_howManyHave_28
    refine lv_iadd hx hb dX10_howManyHave_28 ?_
    refine lv_istore_n (lv' := [(2, .int (y0 + y1)), (0, .ref this), (1, .int a0), (3, .int x3)]) hx hb dX10_howManyHave_29 rfl hl (by decide) rfl (fun ls hl => ?_)
    refine lv_iinc (v := x3 + 1) (lv' := [(3, .int (x3 + 1)), (2, .int (y0 + y1)), (0, .ref this), (1, .int a0)]) hx hb dX10_howManyHave_30 hl (k := 3) rfl rfl (by decide) rfl (fun ls hl => ?_)
    refine lv_goto (tgt := 4) hx hb dX10_howManyHave_33 (by decide) ?_
    exact hk4 (y0 + y1) (x3 + 1) _ _ _ hw (lv_sub hl [2, 3, 1, 0] rfl)
  have w4 : ∀ (n : Nat) (x2 : Int32) (x3 : Int32) (H : Heap) (locs : List Loc) (ls : Array Slot), w_W G M r s H locs → lv_has ls 4 [(0, .ref this), (1, .int a0), (2, .int x2), (3, .int x3)] → W p l e rm_Years_howManyHave s m args below meth c H locs 0 0 (PQ G below args s rm_Years_howManyHave.cells rm_Years_howManyHave.slots (fun z => (.inl (some (.int z)), M, r)) (f_Years_howManyHave_4 N this a0 M n x2 x3)) (F0 m 4 ls []) := by
    intro n
    induction n with
    | zero => intros; exact W_none
    | succ n ih =>
      intro x2 x3 H locs ls hw hl
      rw [f_Years_howManyHave_4]
      refine lv_iload_n hx hb dX10_howManyHave_4 rfl (lv_at hl 3 rfl) ?_
      refine lv_aload_n hx hb dX10_howManyHave_5 rfl (lv_at hl 0 rfl) ?_
      refine gx_getI E hw kF_Years_33_9 (by decide) dX10_howManyHave_6 (fun v1 _ => ?_)
      refine cx_icmp_ge (tgt := 36) E dX10_howManyHave_9 (by decide) (fun _ => ?_) (fun _ => ?_)
      · refine lv_iload_n hx hb dX10_howManyHave_36 rfl (lv_at hl 2 rfl) ?_
        exact p_iret E hw hr (Nat.le_of_ble_eq_true rfl) (Nat.le_of_ble_eq_true rfl) rfl dX10_howManyHave_37
      · refine lv_iload_n hx hb dX10_howManyHave_12 rfl (lv_at hl 2 rfl) ?_
        refine lv_aload_n hx hb dX10_howManyHave_13 rfl (lv_at hl 0 rfl) ?_
        refine gx_getR E hw kF_Years_15_9 (by decide) dX10_howManyHave_14 (fun v2 _ => ?_)
        refine lv_iload_n hx hb dX10_howManyHave_17 rfl (lv_at hl 3 rfl) ?_
        refine gx_iald E hw dX10_howManyHave_18 (fun v3 _ => ?_)
        refine lv_iload_n hx hb dX10_howManyHave_19 rfl (lv_at hl 1 rfl) ?_
        refine cx_icmp_ne (tgt := 27) E dX10_howManyHave_20 (by decide) (fun _ => ?_) (fun _ => ?_)
        · refine lv_iconst (v := 0) hx hb dX10_howManyHave_27 (by decide) ?_
          exact w28 (f_Years_howManyHave_4 N this a0 M n) ih x3 x2 0 _ _ _ hw (lv_sub hl [0, 1, 3] rfl)
        · refine lv_iconst (v := 1) hx hb dX10_howManyHave_23 (by decide) ?_
          refine lv_goto (tgt := 28) hx hb dX10_howManyHave_24 (by decide) ?_
          exact w28 (f_Years_howManyHave_4 N this a0 M n) ih x3 x2 1 _ _ _ hw (lv_sub hl [0, 1, 3] rfl)
  unfold f_Years_howManyHave
  refine lv_iconst (v := 0) hx hb dX10_howManyHave_0 (by decide) ?_
  refine lv_istore_n (lv' := [(2, .int 0), (0, .ref this), (1, .int a0)]) hx hb dX10_howManyHave_1 rfl hl (by decide) rfl (fun ls hl => ?_)
  refine lv_iconst (v := 0) hx hb dX10_howManyHave_2 (by decide) ?_
  refine lv_istore_n (lv' := [(3, .int 0), (2, .int 0), (0, .ref this), (1, .int a0)]) hx hb dX10_howManyHave_3 rfl hl (by decide) rfl (fun ls hl => ?_)
  exact w4  N 0 0 _ _ _ hw (lv_sub hl [2, 3, 1, 0] rfl)
set_option maxHeartbeats 4000000 in
set_option maxRecDepth 100000 in
theorem t_Years_mostCommon (l : Launch) (hfl : l.stackTraces = false) (G : wG) (N : Nat) (this : Nat) (M : Mem) (r : Rho) : Ctr l yX10_mostCommon (wWs yX10_mostCommon cX10_mostCommon 5 (some .int)) rm_Years_mostCommon rm_Years_mostCommon.cells rm_Years_mostCommon.slots G [.ref this] M r ((f_Years_mostCommon N this M).map (fun z => (.inl (some (.int z)), M, r))) := by
  refine Ctr.ofF (own := "CheekTown$Years") (by decide +kernel) hfl rfl (Nat.le_of_ble_eq_true rfl) (fun p e s m args below meth c E hno hr hnm hw ls hl => ?_)
  obtain ⟨hx, hb, hts, hown, hml, hTT, -⟩ := id E
  have hl : lv_has ls 5 [(0, .ref this)] := hl
  obtain ⟨H, hH⟩ : ∃ H, H = s.heap := ⟨_, rfl⟩
  obtain ⟨locs, hlo⟩ : ∃ L : List Loc, L = [] := ⟨_, rfl⟩
  rw [← hH, ← hlo]
  rw [← hlo] at hw
  replace hw : w_W G M r s H locs := by rw [hH]; exact hw
  have w6 : ∀ (n : Nat) (x1 : Int32) (x2 : Int32) (x3 : Int32) (H : Heap) (locs : List Loc) (ls : Array Slot), w_W G M r s H locs → lv_has ls 5 [(0, .ref this), (1, .int x1), (2, .int x2), (3, .int x3)] → W p l e rm_Years_mostCommon s m args below meth c H locs 0 0 (PQ G below args s rm_Years_mostCommon.cells rm_Years_mostCommon.slots (fun z => (.inl (some (.int z)), M, r)) (f_Years_mostCommon_6 N this M n x1 x2 x3)) (F0 m 6 ls []) := by
    intro n
    induction n with
    | zero => intros; exact W_none
    | succ n ih =>
      intro x1 x2 x3 H locs ls hw hl
      rw [f_Years_mostCommon_6]
      refine lv_iload_n hx hb dX10_mostCommon_6 rfl (lv_at hl 3 rfl) ?_
      refine lv_bipush (v := 32) hx hb dX10_mostCommon_7 (by decide) ?_
      refine cx_icmp_ge (tgt := 36) E dX10_mostCommon_9 (by decide) (fun _ => ?_) (fun _ => ?_)
      · refine lv_iload_n hx hb dX10_mostCommon_36 rfl (lv_at hl 1 rfl) ?_
        exact p_iret E hw hr (Nat.le_of_ble_eq_true rfl) (Nat.le_of_ble_eq_true rfl) rfl dX10_mostCommon_37
      · refine lv_aload_n hx hb dX10_mostCommon_12 rfl (lv_at hl 0 rfl) ?_
        refine lv_iload_n hx hb dX10_mostCommon_13 rfl (lv_at hl 3 rfl) ?_
        refine W_bind fun _ hck => ?_
        refine W_bind fun z1 hz => ?_
        refine w_after (cells1 := 0) (slots1 := 0) (w_runV E kV_Years_79 kc_X10_howManyHave (t_Years_howManyHave l hfl G N this x3 M r ((fun z => (.inl (some (.int z)), M, r)) z1) (by rw [hz]; rfl)) ⟨Nat.le_of_ble_eq_true rfl, Nat.le_of_ble_eq_true rfl⟩ hw (w_recv E hw (by decide) ⟨_, _, rfl⟩ (ck_ok hck)) rfl hl.1 rfl (Nat.le_of_ble_eq_true rfl) dX10_mostCommon_14 ⟨Nat.le_of_ble_eq_true rfl, Nat.le_of_ble_eq_true rfl⟩) hw rfl (Nat.le_of_ble_eq_true rfl) (Nat.le_of_ble_eq_true rfl) (fun H locs hw => ?_)
        refine W.eq (g2 := F0 m 17 ls [.int z1]) rfl ?_
        have hw : w_W G M r s H locs := hw
        refine lv_istore (lv' := [(4, .int z1), (0, .ref this), (1, .int x1), (2, .int x2), (3, .int x3)]) hx hb dX10_mostCommon_17 hl (by decide) rfl (fun ls hl => ?_)
        refine lv_iload hx hb dX10_mostCommon_19 (lv_at hl 0 rfl) ?_
        refine lv_iload_n hx hb dX10_mostCommon_21 rfl (lv_at hl 3 rfl) ?_
        refine cx_icmp_le (tgt := 30) E dX10_mostCommon_22 (by decide) (fun _ => ?_) (fun _ => ?_)
        · refine lv_iinc (v := x3 + 1) (lv' := [(3, .int (x3 + 1)), (4, .int z1), (0, .ref this), (1, .int x1), (2, .int x2)]) hx hb dX10_mostCommon_30 hl (k := 4) rfl rfl (by decide) rfl (fun ls hl => ?_)
          refine lv_goto (tgt := 6) hx hb dX10_mostCommon_33 (by decide) ?_
          exact ih x1 x2 (x3 + 1) _ _ _ hw (lv_sub hl [2, 3, 4, 0] rfl)
        · refine lv_iload_n hx hb dX10_mostCommon_25 rfl (lv_at hl 4 rfl) ?_
          refine lv_istore_n (lv' := [(1, .int x3), (4, .int z1), (0, .ref this), (2, .int x2), (3, .int x3)]) hx hb dX10_mostCommon_26 rfl hl (by decide) rfl (fun ls hl => ?_)
          refine lv_iload hx hb dX10_mostCommon_27 (lv_at hl 1 rfl) ?_
          refine lv_istore_n (lv' := [(2, .int z1), (1, .int x3), (4, .int z1), (0, .ref this), (3, .int x3)]) hx hb dX10_mostCommon_29 rfl hl (by decide) rfl (fun ls hl => ?_)
          refine lv_iinc (v := x3 + 1) (lv' := [(3, .int (x3 + 1)), (2, .int z1), (1, .int x3), (4, .int z1), (0, .ref this)]) hx hb dX10_mostCommon_30 hl (k := 4) rfl rfl (by decide) rfl (fun ls hl => ?_)
          refine lv_goto (tgt := 6) hx hb dX10_mostCommon_33 (by decide) ?_
          exact ih x3 z1 (x3 + 1) _ _ _ hw (lv_sub hl [4, 2, 1, 0] rfl)
  unfold f_Years_mostCommon
  refine lv_iconst (v := (-1)) hx hb dX10_mostCommon_0 (by decide) ?_
  refine lv_istore_n (lv' := [(1, .int (-1)), (0, .ref this)]) hx hb dX10_mostCommon_1 rfl hl (by decide) rfl (fun ls hl => ?_)
  refine lv_iconst (v := 0) hx hb dX10_mostCommon_2 (by decide) ?_
  refine lv_istore_n (lv' := [(2, .int 0), (1, .int (-1)), (0, .ref this)]) hx hb dX10_mostCommon_3 rfl hl (by decide) rfl (fun ls hl => ?_)
  refine lv_iconst (v := 0) hx hb dX10_mostCommon_4 (by decide) ?_
  refine lv_istore_n (lv' := [(3, .int 0), (2, .int 0), (1, .int (-1)), (0, .ref this)]) hx hb dX10_mostCommon_5 rfl hl (by decide) rfl (fun ls hl => ?_)
  exact w6  N (-1) 0 0 _ _ _ hw (lv_sub hl [3, 2, 1, 0] rfl)
set_option maxHeartbeats 4000000 in
set_option maxRecDepth 100000 in
theorem t_CT_after (l : Launch) (hfl : l.stackTraces = false) (G : wG) (N : Nat) (this : Nat) (a0 : Int32) (a1 : Int32) (M : Mem) (r : Rho) : Ctr l yX11_after (wWs yX11_after cX11_after 4 (some .int)) rm_CT_after rm_CT_after.cells rm_CT_after.slots G [.ref this, .int a0, .int a1] M r ((f_CT_after N this a0 a1 M).map (fun z => (z.1.elim (fun v => .inl (some (.int v))) .inr, z.2, r))) := by
  refine Ctr.ofF (own := "CheekTown") (by decide +kernel) hfl rfl (Nat.le_of_ble_eq_true rfl) (fun p e s m args below meth c E hno hr hnm hw ls hl => ?_)
  obtain ⟨hx, hb, hts, hown, hml, hTT, -⟩ := id E
  have hl : lv_has ls 4 [(0, .ref this), (1, .int a0), (2, .int a1)] := hl
  obtain ⟨H, hH⟩ : ∃ H, H = s.heap := ⟨_, rfl⟩
  obtain ⟨locs, hlo⟩ : ∃ L : List Loc, L = [] := ⟨_, rfl⟩
  rw [← hH, ← hlo]
  rw [← hlo] at hw
  replace hw : w_W G M r s H locs := by rw [hH]; exact hw
  unfold f_CT_after
  refine lv_iload_n hx hb dX11_after_0 rfl (lv_at hl 1 rfl) ?_
  refine lv_iconst (v := 0) hx hb dX11_after_1 (by decide) ?_
  refine lv_bipush (v := 60) hx hb dX11_after_2 (by decide) ?_
  refine W_bind fun z1 hz => ?_
  refine w_afterS (cells1 := 1) (slots1 := 6) (vv := (fun _ => none)) (w_runS E kS_CT_227 kc_X11_needNumber (t_CT_needNumber l hfl G a0 0 60 M r ((fun z => (z.1.elim (fun _ => .inl none) .inr, z.2, r)) z1) (by rw [hz]; rfl)) ⟨Nat.le_of_ble_eq_true rfl, Nat.le_of_ble_eq_true rfl⟩ hw rfl hl.1 rfl (Nat.le_of_ble_eq_true rfl) dX11_after_4 ⟨Nat.le_of_ble_eq_true rfl, Nat.le_of_ble_eq_true rfl⟩) hw rfl (Nat.le_of_ble_eq_true rfl) (Nat.le_of_ble_eq_true rfl) (fun v2 H locs _ hw => ?_) (fun E9 H locs q ce _ hw hce hcv hcl => w_out E hno hw hce hcv hcl (Nat.le_of_ble_eq_true rfl) (Nat.le_of_ble_eq_true rfl) rfl)
  refine W.eq (g2 := F0 m 7 ls []) rfl ?_
  have hw : w_W G z1.2 r s H locs := hw
  refine lv_iload_n hx hb dX11_after_7 rfl (lv_at hl 2 rfl) ?_
  refine lv_iconst (v := 2) hx hb dX11_after_8 (by decide) ?_
  refine W_bind fun z3 hz => ?_
  refine w_afterS (cells1 := 2) (slots1 := 12) (vv := (fun _ => none)) (w_runS E kS_CT_168 kc_X11_needWhat (t_CT_needWhat l hfl G a1 2 z1.2 r ((fun z => (z.1.elim (fun _ => .inl none) .inr, z.2, r)) z3) (by rw [hz]; rfl)) ⟨Nat.le_of_ble_eq_true rfl, Nat.le_of_ble_eq_true rfl⟩ hw rfl hl.1 rfl (Nat.le_of_ble_eq_true rfl) dX11_after_9 ⟨Nat.le_of_ble_eq_true rfl, Nat.le_of_ble_eq_true rfl⟩) hw rfl (Nat.le_of_ble_eq_true rfl) (Nat.le_of_ble_eq_true rfl) (fun v4 H locs _ hw => ?_) (fun E9 H locs q ce _ hw hce hcv hcl => w_out E hno hw hce hcv hcl (Nat.le_of_ble_eq_true rfl) (Nat.le_of_ble_eq_true rfl) rfl)
  refine W.eq (g2 := F0 m 12 ls []) rfl ?_
  have hw : w_W G z3.2 r s H locs := hw
  refine lv_aload_n hx hb dX11_after_12 rfl (lv_at hl 0 rfl) ?_
  refine gx_getR E hw kF_CT_37_10 (by decide) dX11_after_13 (fun v5 _ => ?_)
  refine lv_aload_n hx hb dX11_after_16 rfl (lv_at hl 0 rfl) ?_
  refine gx_getR E hw kF_CT_20_10 (by decide) dX11_after_17 (fun v6 _ => ?_)
  refine W_bind fun _ hck => ?_
  refine W_bind fun z7 hz => ?_
  refine w_after (cells1 := 2) (slots1 := 12) (w_runV E kV_CT_341 kc_X10_startFrom (t_Years_startFrom l hfl G N v5 v6 z3.2 r ((fun z => (.inl none, z, r)) z7) (by rw [hz]; rfl)) ⟨Nat.le_of_ble_eq_true rfl, Nat.le_of_ble_eq_true rfl⟩ hw (w_recv E hw (by decide) ⟨_, _, rfl⟩ (ck_ok hck)) rfl hl.1 rfl (Nat.le_of_ble_eq_true rfl) dX11_after_20 ⟨Nat.le_of_ble_eq_true rfl, Nat.le_of_ble_eq_true rfl⟩) hw rfl (Nat.le_of_ble_eq_true rfl) (Nat.le_of_ble_eq_true rfl) (fun H locs hw => ?_)
  refine W.eq (g2 := F0 m 23 ls []) rfl ?_
  have hw : w_W G z7 r s H locs := hw
  refine lv_aload_n hx hb dX11_after_23 rfl (lv_at hl 0 rfl) ?_
  refine gx_getR E hw kF_CT_37_10 (by decide) dX11_after_24 (fun v8 _ => ?_)
  refine lv_iload_n hx hb dX11_after_27 rfl (lv_at hl 1 rfl) ?_
  refine W_bind fun _ hck => ?_
  refine W_bind fun z9 hz => ?_
  refine w_after (cells1 := 2) (slots1 := 12) (w_runV E kV_CT_344 kc_X10_passYears (t_Years_passYears l hfl G N v8 a0 z7 r ((fun z => (.inl none, z, r)) z9) (by rw [hz]; rfl)) ⟨Nat.le_of_ble_eq_true rfl, Nat.le_of_ble_eq_true rfl⟩ hw (w_recv E hw (by decide) ⟨_, _, rfl⟩ (ck_ok hck)) rfl hl.1 rfl (Nat.le_of_ble_eq_true rfl) dX11_after_28 ⟨Nat.le_of_ble_eq_true rfl, Nat.le_of_ble_eq_true rfl⟩) hw rfl (Nat.le_of_ble_eq_true rfl) (Nat.le_of_ble_eq_true rfl) (fun H locs hw => ?_)
  refine W.eq (g2 := F0 m 31 ls []) rfl ?_
  have hw : w_W G z9 r s H locs := hw
  refine lv_iload_n hx hb dX11_after_31 rfl (lv_at hl 2 rfl) ?_
  refine cx_if_ne (tgt := 43) E dX11_after_32 (by decide) (fun _ => ?_) (fun _ => ?_)
  · refine lv_aload_n hx hb dX11_after_43 rfl (lv_at hl 0 rfl) ?_
    refine gx_getR E hw kF_CT_37_10 (by decide) dX11_after_44 (fun v10 _ => ?_)
    refine W_bind fun _ hck => ?_
    refine W_bind fun z11 hz => ?_
    refine w_after (cells1 := 2) (slots1 := 12) (w_runV E kV_CT_350 kc_X10_mostCommon (t_Years_mostCommon l hfl G N v10 z9 r ((fun z => (.inl (some (.int z)), z9, r)) z11) (by rw [hz]; rfl)) ⟨Nat.le_of_ble_eq_true rfl, Nat.le_of_ble_eq_true rfl⟩ hw (w_recv E hw (by decide) ⟨_, _, rfl⟩ (ck_ok hck)) rfl hl.1 rfl (Nat.le_of_ble_eq_true rfl) dX11_after_47 ⟨Nat.le_of_ble_eq_true rfl, Nat.le_of_ble_eq_true rfl⟩) hw rfl (Nat.le_of_ble_eq_true rfl) (Nat.le_of_ble_eq_true rfl) (fun H locs hw => ?_)
    refine W.eq (g2 := F0 m 50 ls [.int z11]) rfl ?_
    have hw : w_W G z9 r s H locs := hw
    refine lv_istore_n (lv' := [(3, .int z11), (0, .ref this), (1, .int a0), (2, .int a1)]) hx hb dX11_after_50 rfl hl (by decide) rfl (fun ls hl => ?_)
    refine lv_iload_n hx hb dX11_after_51 rfl (lv_at hl 3 rfl) ?_
    refine lv_iconst (v := 1) hx hb dX11_after_52 (by decide) ?_
    refine cx_icmp_ne (tgt := 60) E dX11_after_53 (by decide) (fun _ => ?_) (fun _ => ?_)
    · refine lv_aload_n hx hb dX11_after_60 rfl (lv_at hl 1 rfl) ?_
      refine gx_getR E hw kF_CT_37_10 (by decide) dX11_after_61 (fun v12 _ => ?_)
      refine lv_iload_n hx hb dX11_after_64 rfl (lv_at hl 0 rfl) ?_
      refine W_bind fun _ hck => ?_
      refine W_bind fun z13 hz => ?_
      refine w_after (cells1 := 2) (slots1 := 12) (w_runV E kV_CT_353 kc_X10_howManyHave (t_Years_howManyHave l hfl G N v12 z11 z9 r ((fun z => (.inl (some (.int z)), z9, r)) z13) (by rw [hz]; rfl)) ⟨Nat.le_of_ble_eq_true rfl, Nat.le_of_ble_eq_true rfl⟩ hw (w_recv E hw (by decide) ⟨_, _, rfl⟩ (ck_ok hck)) rfl hl.1 rfl (Nat.le_of_ble_eq_true rfl) dX11_after_65 ⟨Nat.le_of_ble_eq_true rfl, Nat.le_of_ble_eq_true rfl⟩) hw rfl (Nat.le_of_ble_eq_true rfl) (Nat.le_of_ble_eq_true rfl) (fun H locs hw => ?_)
      refine W.eq (g2 := F0 m 68 ls [.int z13]) rfl ?_
      have hw : w_W G z9 r s H locs := hw
      exact p_iret E hw hr (Nat.le_of_ble_eq_true rfl) (Nat.le_of_ble_eq_true rfl) rfl dX11_after_68
    · refine lv_iload_n hx hb dX11_after_56 rfl (lv_at hl 0 rfl) ?_
      refine lv_goto (tgt := 68) hx hb dX11_after_57 (by decide) ?_
      exact p_iret E hw hr (Nat.le_of_ble_eq_true rfl) (Nat.le_of_ble_eq_true rfl) rfl dX11_after_68
  · refine lv_aload_n hx hb dX11_after_35 rfl (lv_at hl 0 rfl) ?_
    refine gx_getR E hw kF_CT_37_10 (by decide) dX11_after_36 (fun v14 _ => ?_)
    refine W_bind fun _ hck => ?_
    refine W_bind fun z15 hz => ?_
    refine w_after (cells1 := 2) (slots1 := 12) (w_runV E kV_CT_347 kc_X10_kinds (t_Years_kinds l hfl G N v14 z9 r ((fun z => (.inl (some (.int z)), z9, r)) z15) (by rw [hz]; rfl)) ⟨Nat.le_of_ble_eq_true rfl, Nat.le_of_ble_eq_true rfl⟩ hw (w_recv E hw (by decide) ⟨_, _, rfl⟩ (ck_ok hck)) rfl hl.1 rfl (Nat.le_of_ble_eq_true rfl) dX11_after_39 ⟨Nat.le_of_ble_eq_true rfl, Nat.le_of_ble_eq_true rfl⟩) hw rfl (Nat.le_of_ble_eq_true rfl) (Nat.le_of_ble_eq_true rfl) (fun H locs hw => ?_)
    refine W.eq (g2 := F0 m 42 ls [.int z15]) rfl ?_
    have hw : w_W G z9 r s H locs := hw
    exact p_iret E hw hr (Nat.le_of_ble_eq_true rfl) (Nat.le_of_ble_eq_true rfl) rfl dX11_after_42
set_option maxHeartbeats 4000000 in
set_option maxRecDepth 100000 in
theorem t_Years_ownOf (l : Launch) (hfl : l.stackTraces = false) (G : wG) (this : Nat) (a0 : Int32) (M : Mem) (r : Rho) : Ctr l yX10_ownOf (wWs yX10_ownOf cX10_ownOf 2 (some .int)) rm_Years_ownOf rm_Years_ownOf.cells rm_Years_ownOf.slots G [.ref this, .int a0] M r ((f_Years_ownOf this a0 M).map (fun z => (.inl (some (.int z)), M, r))) := by
  refine Ctr.ofF (own := "CheekTown$Years") (by decide +kernel) hfl rfl (Nat.le_of_ble_eq_true rfl) (fun p e s m args below meth c E hno hr hnm hw ls hl => ?_)
  obtain ⟨hx, hb, hts, hown, hml, hTT, -⟩ := id E
  have hl : lv_has ls 2 [(0, .ref this), (1, .int a0)] := hl
  obtain ⟨H, hH⟩ : ∃ H, H = s.heap := ⟨_, rfl⟩
  obtain ⟨locs, hlo⟩ : ∃ L : List Loc, L = [] := ⟨_, rfl⟩
  rw [← hH, ← hlo]
  rw [← hlo] at hw
  replace hw : w_W G M r s H locs := by rw [hH]; exact hw
  unfold f_Years_ownOf
  refine lv_iload_n hx hb dX10_ownOf_0 rfl (lv_at hl 1 rfl) ?_
  refine cx_if_lt (tgt := 21) E dX10_ownOf_1 (by decide) (fun _ => ?_) (fun _ => ?_)
  · refine lv_iconst (v := (-1)) hx hb dX10_ownOf_21 (by decide) ?_
    exact p_iret E hw hr (Nat.le_of_ble_eq_true rfl) (Nat.le_of_ble_eq_true rfl) rfl dX10_ownOf_22
  · refine lv_iload_n hx hb dX10_ownOf_4 rfl (lv_at hl 1 rfl) ?_
    refine lv_aload_n hx hb dX10_ownOf_5 rfl (lv_at hl 0 rfl) ?_
    refine gx_getI E hw kF_Years_33_9 (by decide) dX10_ownOf_6 (fun v1 _ => ?_)
    refine cx_icmp_ge (tgt := 21) E dX10_ownOf_9 (by decide) (fun _ => ?_) (fun _ => ?_)
    · refine lv_iconst (v := (-1)) hx hb dX10_ownOf_21 (by decide) ?_
      exact p_iret E hw hr (Nat.le_of_ble_eq_true rfl) (Nat.le_of_ble_eq_true rfl) rfl dX10_ownOf_22
    · refine lv_aload_n hx hb dX10_ownOf_12 rfl (lv_at hl 0 rfl) ?_
      refine gx_getR E hw kF_Years_15_9 (by decide) dX10_ownOf_13 (fun v2 _ => ?_)
      refine lv_iload_n hx hb dX10_ownOf_16 rfl (lv_at hl 1 rfl) ?_
      refine gx_iald E hw dX10_ownOf_17 (fun v3 _ => ?_)
      refine lv_goto (tgt := 22) hx hb dX10_ownOf_18 (by decide) ?_
      exact p_iret E hw hr (Nat.le_of_ble_eq_true rfl) (Nat.le_of_ble_eq_true rfl) rfl dX10_ownOf_22
set_option maxHeartbeats 4000000 in
set_option maxRecDepth 100000 in
theorem t_CT_custom (l : Launch) (hfl : l.stackTraces = false) (G : wG) (N : Nat) (this : Nat) (a0 : Int32) (a1 : Int32) (M : Mem) (r : Rho) : Ctr l yX11_custom (wWs yX11_custom cX11_custom 3 (some .int)) rm_CT_custom rm_CT_custom.cells rm_CT_custom.slots G [.ref this, .int a0, .int a1] M r ((f_CT_custom N this a0 a1 M).map (fun z => (z.1.elim (fun v => .inl (some (.int v))) .inr, z.2, r))) := by
  refine Ctr.ofF (own := "CheekTown") (by decide +kernel) hfl rfl (Nat.le_of_ble_eq_true rfl) (fun p e s m args below meth c E hno hr hnm hw ls hl => ?_)
  obtain ⟨hx, hb, hts, hown, hml, hTT, -⟩ := id E
  have hl : lv_has ls 3 [(0, .ref this), (1, .int a0), (2, .int a1)] := hl
  obtain ⟨H, hH⟩ : ∃ H, H = s.heap := ⟨_, rfl⟩
  obtain ⟨locs, hlo⟩ : ∃ L : List Loc, L = [] := ⟨_, rfl⟩
  rw [← hH, ← hlo]
  rw [← hlo] at hw
  replace hw : w_W G M r s H locs := by rw [hH]; exact hw
  unfold f_CT_custom
  refine lv_aload_n hx hb dX11_custom_0 rfl (lv_at hl 0 rfl) ?_
  refine lv_iload_n hx hb dX11_custom_1 rfl (lv_at hl 1 rfl) ?_
  refine W_bind fun _ hck => ?_
  refine W_bind fun z1 hz => ?_
  refine w_afterS (cells1 := 1) (slots1 := 6) (vv := (fun _ => none)) (w_runV E kV_CT_132 kc_X11_needPerson (t_CT_needPerson l hfl G this a0 M r ((fun z => (z.1.elim (fun _ => .inl none) .inr, z.2, r)) z1) (by rw [hz]; rfl)) ⟨Nat.le_of_ble_eq_true rfl, Nat.le_of_ble_eq_true rfl⟩ hw (w_recv E hw (by decide) ⟨_, _, rfl⟩ (ck_ok hck)) rfl hl.1 rfl (Nat.le_of_ble_eq_true rfl) dX11_custom_2 ⟨Nat.le_of_ble_eq_true rfl, Nat.le_of_ble_eq_true rfl⟩) hw rfl (Nat.le_of_ble_eq_true rfl) (Nat.le_of_ble_eq_true rfl) (fun v2 H locs _ hw => ?_) (fun E9 H locs q ce _ hw hce hcv hcl => w_out E hno hw hce hcv hcl (Nat.le_of_ble_eq_true rfl) (Nat.le_of_ble_eq_true rfl) rfl)
  refine W.eq (g2 := F0 m 5 ls []) rfl ?_
  have hw : w_W G z1.2 r s H locs := hw
  refine lv_iload_n hx hb dX11_custom_5 rfl (lv_at hl 2 rfl) ?_
  refine lv_iconst (v := 0) hx hb dX11_custom_6 (by decide) ?_
  refine lv_bipush (v := 60) hx hb dX11_custom_7 (by decide) ?_
  refine W_bind fun z3 hz => ?_
  refine w_afterS (cells1 := 2) (slots1 := 12) (vv := (fun _ => none)) (w_runS E kS_CT_227 kc_X11_needNumber (t_CT_needNumber l hfl G a1 0 60 z1.2 r ((fun z => (z.1.elim (fun _ => .inl none) .inr, z.2, r)) z3) (by rw [hz]; rfl)) ⟨Nat.le_of_ble_eq_true rfl, Nat.le_of_ble_eq_true rfl⟩ hw rfl hl.1 rfl (Nat.le_of_ble_eq_true rfl) dX11_custom_9 ⟨Nat.le_of_ble_eq_true rfl, Nat.le_of_ble_eq_true rfl⟩) hw rfl (Nat.le_of_ble_eq_true rfl) (Nat.le_of_ble_eq_true rfl) (fun v4 H locs _ hw => ?_) (fun E9 H locs q ce _ hw hce hcv hcl => w_out E hno hw hce hcv hcl (Nat.le_of_ble_eq_true rfl) (Nat.le_of_ble_eq_true rfl) rfl)
  refine W.eq (g2 := F0 m 12 ls []) rfl ?_
  have hw : w_W G z3.2 r s H locs := hw
  refine lv_aload_n hx hb dX11_custom_12 rfl (lv_at hl 0 rfl) ?_
  refine gx_getR E hw kF_CT_37_10 (by decide) dX11_custom_13 (fun v5 _ => ?_)
  refine lv_aload_n hx hb dX11_custom_16 rfl (lv_at hl 0 rfl) ?_
  refine gx_getR E hw kF_CT_20_10 (by decide) dX11_custom_17 (fun v6 _ => ?_)
  refine W_bind fun _ hck => ?_
  refine W_bind fun z7 hz => ?_
  refine w_after (cells1 := 2) (slots1 := 12) (w_runV E kV_CT_341 kc_X10_startFrom (t_Years_startFrom l hfl G N v5 v6 z3.2 r ((fun z => (.inl none, z, r)) z7) (by rw [hz]; rfl)) ⟨Nat.le_of_ble_eq_true rfl, Nat.le_of_ble_eq_true rfl⟩ hw (w_recv E hw (by decide) ⟨_, _, rfl⟩ (ck_ok hck)) rfl hl.1 rfl (Nat.le_of_ble_eq_true rfl) dX11_custom_20 ⟨Nat.le_of_ble_eq_true rfl, Nat.le_of_ble_eq_true rfl⟩) hw rfl (Nat.le_of_ble_eq_true rfl) (Nat.le_of_ble_eq_true rfl) (fun H locs hw => ?_)
  refine W.eq (g2 := F0 m 23 ls []) rfl ?_
  have hw : w_W G z7 r s H locs := hw
  refine lv_aload_n hx hb dX11_custom_23 rfl (lv_at hl 0 rfl) ?_
  refine gx_getR E hw kF_CT_37_10 (by decide) dX11_custom_24 (fun v8 _ => ?_)
  refine lv_iload_n hx hb dX11_custom_27 rfl (lv_at hl 2 rfl) ?_
  refine W_bind fun _ hck => ?_
  refine W_bind fun z9 hz => ?_
  refine w_after (cells1 := 2) (slots1 := 12) (w_runV E kV_CT_344 kc_X10_passYears (t_Years_passYears l hfl G N v8 a1 z7 r ((fun z => (.inl none, z, r)) z9) (by rw [hz]; rfl)) ⟨Nat.le_of_ble_eq_true rfl, Nat.le_of_ble_eq_true rfl⟩ hw (w_recv E hw (by decide) ⟨_, _, rfl⟩ (ck_ok hck)) rfl hl.1 rfl (Nat.le_of_ble_eq_true rfl) dX11_custom_28 ⟨Nat.le_of_ble_eq_true rfl, Nat.le_of_ble_eq_true rfl⟩) hw rfl (Nat.le_of_ble_eq_true rfl) (Nat.le_of_ble_eq_true rfl) (fun H locs hw => ?_)
  refine W.eq (g2 := F0 m 31 ls []) rfl ?_
  have hw : w_W G z9 r s H locs := hw
  refine lv_aload_n hx hb dX11_custom_31 rfl (lv_at hl 0 rfl) ?_
  refine gx_getR E hw kF_CT_37_10 (by decide) dX11_custom_32 (fun v10 _ => ?_)
  refine lv_iload_n hx hb dX11_custom_35 rfl (lv_at hl 1 rfl) ?_
  refine W_bind fun _ hck => ?_
  refine W_bind fun z11 hz => ?_
  refine w_after (cells1 := 2) (slots1 := 12) (w_runV E kV_CT_356 kc_X10_ownOf (t_Years_ownOf l hfl G v10 a0 z9 r ((fun z => (.inl (some (.int z)), z9, r)) z11) (by rw [hz]; rfl)) ⟨Nat.le_of_ble_eq_true rfl, Nat.le_of_ble_eq_true rfl⟩ hw (w_recv E hw (by decide) ⟨_, _, rfl⟩ (ck_ok hck)) rfl hl.1 rfl (Nat.le_of_ble_eq_true rfl) dX11_custom_36 ⟨Nat.le_of_ble_eq_true rfl, Nat.le_of_ble_eq_true rfl⟩) hw rfl (Nat.le_of_ble_eq_true rfl) (Nat.le_of_ble_eq_true rfl) (fun H locs hw => ?_)
  refine W.eq (g2 := F0 m 39 ls [.int z11]) rfl ?_
  have hw : w_W G z9 r s H locs := hw
  exact p_iret E hw hr (Nat.le_of_ble_eq_true rfl) (Nat.le_of_ble_eq_true rfl) rfl dX11_custom_39
set_option maxHeartbeats 4000000 in
set_option maxRecDepth 100000 in
theorem t_Years_tell (l : Launch) (hfl : l.stackTraces = false) (G : wG) (N : Nat) (this : Nat) (a0 : Int32) (a1 : Int32) (M : Mem) (r : Rho) : Ctr l yX10_tell (wWs yX10_tell cX10_tell 4 none) rm_Years_tell rm_Years_tell.cells rm_Years_tell.slots G [.ref this, .int a0, .int a1] M r ((f_Years_tell N this a0 a1 M).map (fun z => (.inl none, z, r))) := by
  refine Ctr.ofF (own := "CheekTown$Years") (by decide +kernel) hfl rfl (Nat.le_of_ble_eq_true rfl) (fun p e s m args below meth c E hno hr hnm hw ls hl => ?_)
  obtain ⟨hx, hb, hts, hown, hml, hTT, -⟩ := id E
  have hl : lv_has ls 4 [(0, .ref this), (1, .int a0), (2, .int a1)] := hl
  obtain ⟨H, hH⟩ : ∃ H, H = s.heap := ⟨_, rfl⟩
  obtain ⟨locs, hlo⟩ : ∃ L : List Loc, L = [] := ⟨_, rfl⟩
  rw [← hH, ← hlo]
  rw [← hlo] at hw
  replace hw : w_W G M r s H locs := by rw [hH]; exact hw
  have w2 : ∀ (n : Nat) (x3 : Int32) (M : Mem) (H : Heap) (locs : List Loc) (ls : Array Slot), w_W G M r s H locs → lv_has ls 4 [(0, .ref this), (1, .int a0), (2, .int a1), (3, .int x3)] → W p l e rm_Years_tell s m args below meth c H locs 0 0 (PQ G below args s rm_Years_tell.cells rm_Years_tell.slots (fun z => (.inl none, z, r)) (f_Years_tell_2 N this a0 a1 n x3 M)) (F0 m 2 ls []) := by
    intro n
    induction n with
    | zero => intros; exact W_none
    | succ n ih =>
      intro x3 M H locs ls hw hl
      rw [f_Years_tell_2]
      refine lv_iload_n hx hb dX10_tell_2 rfl (lv_at hl 3 rfl) ?_
      refine lv_aload_n hx hb dX10_tell_3 rfl (lv_at hl 0 rfl) ?_
      refine gx_getI E hw kF_Years_33_9 (by decide) dX10_tell_4 (fun v1 _ => ?_)
      refine cx_icmp_ge (tgt := 31) E dX10_tell_7 (by decide) (fun _ => ?_) (fun _ => ?_)
      · exact p_vret E hw hr (Nat.le_of_ble_eq_true rfl) (Nat.le_of_ble_eq_true rfl) rfl dX10_tell_31
      · refine lv_iload_n hx hb dX10_tell_10 rfl (lv_at hl 1 rfl) ?_
        refine lv_iload_n hx hb dX10_tell_11 rfl (lv_at hl 3 rfl) ?_
        refine W_bind fun z2 hz => ?_
        refine w_after (cells1 := 0) (slots1 := 0) (w_runSN E kSN_Years_47 kc_X11_isIn (t_CT_isIn l hfl G a0 x3 M r ((fun z => (.inl (some (.int z)), M, r)) z2) (by rw [hz]; rfl)) ⟨Nat.le_of_ble_eq_true rfl, Nat.le_of_ble_eq_true rfl⟩ hw rfl hl.1 rfl (Nat.le_of_ble_eq_true rfl) dX10_tell_12 ⟨Nat.le_of_ble_eq_true rfl, Nat.le_of_ble_eq_true rfl⟩) hw rfl (Nat.le_of_ble_eq_true rfl) (Nat.le_of_ble_eq_true rfl) (fun H locs hw => ?_)
        refine W.eq (g2 := F0 m 15 ls [.int z2]) rfl ?_
        have hw : w_W G M r s H locs := hw
        refine cx_if_eq (tgt := 25) E dX10_tell_15 (by decide) (fun _ => ?_) (fun _ => ?_)
        · refine lv_iinc (v := x3 + 1) (lv' := [(3, .int (x3 + 1)), (0, .ref this), (1, .int a0), (2, .int a1)]) hx hb dX10_tell_25 hl (k := 3) rfl rfl (by decide) rfl (fun ls hl => ?_)
          refine lv_goto (tgt := 2) hx hb dX10_tell_28 (by decide) ?_
          exact ih (x3 + 1) M _ _ _ hw (lv_sub hl [1, 2, 3, 0] rfl)
        · refine lv_aload_n hx hb dX10_tell_18 rfl (lv_at hl 0 rfl) ?_
          refine gx_getR E hw kF_Years_15_9 (by decide) dX10_tell_19 (fun v3 _ => ?_)
          refine lv_iload_n hx hb dX10_tell_22 rfl (lv_at hl 3 rfl) ?_
          refine lv_iload_n hx hb dX10_tell_23 rfl (lv_at hl 2 rfl) ?_
          refine gx_iast E hw dX10_tell_24 (fun M4 H locs _ hw => ?_)
          refine lv_iinc (v := x3 + 1) (lv' := [(3, .int (x3 + 1)), (0, .ref this), (1, .int a0), (2, .int a1)]) hx hb dX10_tell_25 hl (k := 3) rfl rfl (by decide) rfl (fun ls hl => ?_)
          refine lv_goto (tgt := 2) hx hb dX10_tell_28 (by decide) ?_
          exact ih (x3 + 1) M4 _ _ _ hw (lv_sub hl [1, 2, 3, 0] rfl)
  unfold f_Years_tell
  refine lv_iconst (v := 0) hx hb dX10_tell_0 (by decide) ?_
  refine lv_istore_n (lv' := [(3, .int 0), (0, .ref this), (1, .int a0), (2, .int a1)]) hx hb dX10_tell_1 rfl hl (by decide) rfl (fun ls hl => ?_)
  exact w2  N 0 M _ _ _ hw (lv_sub hl [1, 2, 3, 0] rfl)
set_option maxHeartbeats 4000000 in
set_option maxRecDepth 100000 in
theorem t_CT_wins (l : Launch) (hfl : l.stackTraces = false) (G : wG) (N : Nat) (this : Nat) (a0 : Int32) (a1 : Int32) (a2 : Int32) (M : Mem) (r : Rho) : Ctr l yX11_wins (wWs yX11_wins cX11_wins 4 (some .boolean)) rm_CT_wins rm_CT_wins.cells rm_CT_wins.slots G [.ref this, .int a0, .int a1, .int a2] M r ((f_CT_wins N this a0 a1 a2 M).map (fun z => (.inl (some (.int z.1)), z.2, r))) := by
  refine Ctr.ofF (own := "CheekTown") (by decide +kernel) hfl rfl (Nat.le_of_ble_eq_true rfl) (fun p e s m args below meth c E hno hr hnm hw ls hl => ?_)
  obtain ⟨hx, hb, hts, hown, hml, hTT, -⟩ := id E
  have hl : lv_has ls 4 [(0, .ref this), (1, .int a0), (2, .int a1), (3, .int a2)] := hl
  obtain ⟨H, hH⟩ : ∃ H, H = s.heap := ⟨_, rfl⟩
  obtain ⟨locs, hlo⟩ : ∃ L : List Loc, L = [] := ⟨_, rfl⟩
  rw [← hH, ← hlo]
  rw [← hlo] at hw
  replace hw : w_W G M r s H locs := by rw [hH]; exact hw
  unfold f_CT_wins
  refine lv_aload_n hx hb dX11_wins_0 rfl (lv_at hl 0 rfl) ?_
  refine gx_getR E hw kF_CT_37_10 (by decide) dX11_wins_1 (fun v1 _ => ?_)
  refine lv_aload_n hx hb dX11_wins_4 rfl (lv_at hl 0 rfl) ?_
  refine gx_getR E hw kF_CT_20_10 (by decide) dX11_wins_5 (fun v2 _ => ?_)
  refine W_bind fun _ hck => ?_
  refine W_bind fun z3 hz => ?_
  refine w_after (cells1 := 0) (slots1 := 0) (w_runV E kV_CT_341 kc_X10_startFrom (t_Years_startFrom l hfl G N v1 v2 M r ((fun z => (.inl none, z, r)) z3) (by rw [hz]; rfl)) ⟨Nat.le_of_ble_eq_true rfl, Nat.le_of_ble_eq_true rfl⟩ hw (w_recv E hw (by decide) ⟨_, _, rfl⟩ (ck_ok hck)) rfl hl.1 rfl (Nat.le_of_ble_eq_true rfl) dX11_wins_8 ⟨Nat.le_of_ble_eq_true rfl, Nat.le_of_ble_eq_true rfl⟩) hw rfl (Nat.le_of_ble_eq_true rfl) (Nat.le_of_ble_eq_true rfl) (fun H locs hw => ?_)
  refine W.eq (g2 := F0 m 11 ls []) rfl ?_
  have hw : w_W G z3 r s H locs := hw
  refine lv_aload_n hx hb dX11_wins_11 rfl (lv_at hl 0 rfl) ?_
  refine gx_getR E hw kF_CT_37_10 (by decide) dX11_wins_12 (fun v4 _ => ?_)
  refine lv_iload_n hx hb dX11_wins_15 rfl (lv_at hl 3 rfl) ?_
  refine lv_iload_n hx hb dX11_wins_16 rfl (lv_at hl 1 rfl) ?_
  refine W_bind fun _ hck => ?_
  refine W_bind fun z5 hz => ?_
  refine w_after (cells1 := 0) (slots1 := 0) (w_runV E kV_CT_367 kc_X10_tell (t_Years_tell l hfl G N v4 a2 a0 z3 r ((fun z => (.inl none, z, r)) z5) (by rw [hz]; rfl)) ⟨Nat.le_of_ble_eq_true rfl, Nat.le_of_ble_eq_true rfl⟩ hw (w_recv E hw (by decide) ⟨_, _, rfl⟩ (ck_ok hck)) rfl hl.1 rfl (Nat.le_of_ble_eq_true rfl) dX11_wins_17 ⟨Nat.le_of_ble_eq_true rfl, Nat.le_of_ble_eq_true rfl⟩) hw rfl (Nat.le_of_ble_eq_true rfl) (Nat.le_of_ble_eq_true rfl) (fun H locs hw => ?_)
  refine W.eq (g2 := F0 m 20 ls []) rfl ?_
  have hw : w_W G z5 r s H locs := hw
  refine lv_aload_n hx hb dX11_wins_20 rfl (lv_at hl 0 rfl) ?_
  refine gx_getR E hw kF_CT_37_10 (by decide) dX11_wins_21 (fun v6 _ => ?_)
  refine lv_iload_n hx hb dX11_wins_24 rfl (lv_at hl 2 rfl) ?_
  refine W_bind fun _ hck => ?_
  refine W_bind fun z7 hz => ?_
  refine w_after (cells1 := 0) (slots1 := 0) (w_runV E kV_CT_344 kc_X10_passYears (t_Years_passYears l hfl G N v6 a1 z5 r ((fun z => (.inl none, z, r)) z7) (by rw [hz]; rfl)) ⟨Nat.le_of_ble_eq_true rfl, Nat.le_of_ble_eq_true rfl⟩ hw (w_recv E hw (by decide) ⟨_, _, rfl⟩ (ck_ok hck)) rfl hl.1 rfl (Nat.le_of_ble_eq_true rfl) dX11_wins_25 ⟨Nat.le_of_ble_eq_true rfl, Nat.le_of_ble_eq_true rfl⟩) hw rfl (Nat.le_of_ble_eq_true rfl) (Nat.le_of_ble_eq_true rfl) (fun H locs hw => ?_)
  refine W.eq (g2 := F0 m 28 ls []) rfl ?_
  have hw : w_W G z7 r s H locs := hw
  refine lv_aload_n hx hb dX11_wins_28 rfl (lv_at hl 0 rfl) ?_
  refine gx_getR E hw kF_CT_37_10 (by decide) dX11_wins_29 (fun v8 _ => ?_)
  refine lv_iload_n hx hb dX11_wins_32 rfl (lv_at hl 1 rfl) ?_
  refine W_bind fun _ hck => ?_
  refine W_bind fun z9 hz => ?_
  refine w_after (cells1 := 0) (slots1 := 0) (w_runV E kV_CT_353 kc_X10_howManyHave (t_Years_howManyHave l hfl G N v8 a0 z7 r ((fun z => (.inl (some (.int z)), z7, r)) z9) (by rw [hz]; rfl)) ⟨Nat.le_of_ble_eq_true rfl, Nat.le_of_ble_eq_true rfl⟩ hw (w_recv E hw (by decide) ⟨_, _, rfl⟩ (ck_ok hck)) rfl hl.1 rfl (Nat.le_of_ble_eq_true rfl) dX11_wins_33 ⟨Nat.le_of_ble_eq_true rfl, Nat.le_of_ble_eq_true rfl⟩) hw rfl (Nat.le_of_ble_eq_true rfl) (Nat.le_of_ble_eq_true rfl) (fun H locs hw => ?_)
  refine W.eq (g2 := F0 m 36 ls [.int z9]) rfl ?_
  have hw : w_W G z7 r s H locs := hw
  refine lv_aload_n hx hb dX11_wins_36 rfl (lv_at hl 0 rfl) ?_
  refine gx_getR E hw kF_CT_20_10 (by decide) dX11_wins_37 (fun v10 _ => ?_)
  refine gx_getI E hw kF_CT_127_7 (by decide) dX11_wins_40 (fun v11 _ => ?_)
  refine cx_icmp_ne (tgt := 50) E dX11_wins_43 (by decide) (fun _ => ?_) (fun _ => ?_)
  · refine lv_iconst (v := 0) hx hb dX11_wins_50 (by decide) ?_
    exact p_zret E hw hr (by decide) (Nat.le_of_ble_eq_true rfl) (Nat.le_of_ble_eq_true rfl) rfl dX11_wins_51
  · refine lv_iconst (v := 1) hx hb dX11_wins_46 (by decide) ?_
    refine lv_goto (tgt := 51) hx hb dX11_wins_47 (by decide) ?_
    exact p_zret E hw hr (by decide) (Nat.le_of_ble_eq_true rfl) (Nat.le_of_ble_eq_true rfl) rfl dX11_wins_51
set_option maxHeartbeats 4000000 in
set_option maxRecDepth 100000 in
theorem t_CT_told (l : Launch) (hfl : l.stackTraces = false) (G : wG) (N : Nat) (this : Nat) (a0 : Int32) (a1 : Int32) (M : Mem) (r : Rho) : Ctr l yX11_told (wWs yX11_told cX11_told 6 (some .int)) rm_CT_told rm_CT_told.cells rm_CT_told.slots G [.ref this, .int a0, .int a1] M r ((f_CT_told N this a0 a1 M).map (fun z => (z.1.elim (fun v => .inl (some (.int v))) .inr, z.2, r))) := by
  refine Ctr.ofF (own := "CheekTown") (by decide +kernel) hfl rfl (Nat.le_of_ble_eq_true rfl) (fun p e s m args below meth c E hno hr hnm hw ls hl => ?_)
  obtain ⟨hx, hb, hts, hown, hml, hTT, -⟩ := id E
  have hl : lv_has ls 6 [(0, .ref this), (1, .int a0), (2, .int a1)] := hl
  obtain ⟨H, hH⟩ : ∃ H, H = s.heap := ⟨_, rfl⟩
  obtain ⟨locs, hlo⟩ : ∃ L : List Loc, L = [] := ⟨_, rfl⟩
  rw [← hH, ← hlo]
  rw [← hlo] at hw
  replace hw : w_W G M r s H locs := by rw [hH]; exact hw
  have w37 : ∀ (k22 : Int32 → Int32 → Mem → Option ((Int32 ⊕ String) × Mem)) (hk22 : ∀ (x3 : Int32) (x4 : Int32) (M : Mem) (H : Heap) (locs : List Loc) (ls : Array Slot), w_W G M r s H locs → lv_has ls 6 [(0, .ref this), (1, .int a0), (2, .int a1), (3, .int x3), (4, .int x4)] → W p l e rm_CT_told s m args below meth c H locs 2 12 (PQ G below args s rm_CT_told.cells rm_CT_told.slots (fun z => (z.1.elim (fun v => .inl (some (.int v))) .inr, z.2, r)) (k22 x3 x4 M)) (F0 m 22 ls [])) (n : Nat) (x3 : Int32) (x4 : Int32) (x5 : Int32) (M : Mem) (H : Heap) (locs : List Loc) (ls : Array Slot), w_W G M r s H locs → lv_has ls 6 [(0, .ref this), (1, .int a0), (2, .int a1), (3, .int x3), (4, .int x4), (5, .int x5)] → W p l e rm_CT_told s m args below meth c H locs 2 12 (PQ G below args s rm_CT_told.cells rm_CT_told.slots (fun z => (z.1.elim (fun v => .inl (some (.int v))) .inr, z.2, r)) (f_CT_told_37 N this a0 a1 k22 n x3 x4 x5 M)) (F0 m 37 ls []) := by
    intro k22 hk22 n
    induction n with
    | zero => intros; exact W_none
    | succ n ih =>
      intro x3 x4 x5 M H locs ls hw hl
      rw [f_CT_told_37]
      refine lv_iload hx hb dX11_told_37 (lv_at hl 5 rfl) ?_
      refine lv_iload_n hx hb dX11_told_39 rfl (lv_at hl 3 rfl) ?_
      refine cx_icmp_ge (tgt := 73) E dX11_told_40 (by decide) (fun _ => ?_) (fun _ => ?_)
      · refine lv_iinc (v := x4 + 1) (lv' := [(4, .int (x4 + 1)), (0, .ref this), (1, .int a0), (2, .int a1), (3, .int x3), (5, .int x5)]) hx hb dX11_told_73 hl (k := 4) rfl rfl (by decide) rfl (fun ls hl => ?_)
        refine lv_goto (tgt := 22) hx hb dX11_told_76 (by decide) ?_
        exact hk22 x3 (x4 + 1) M _ _ _ hw (lv_sub hl [1, 2, 3, 4, 0] rfl)
      · refine lv_iload hx hb dX11_told_43 (lv_at hl 5 rfl) ?_
        refine W_bind fun z9 hz => ?_
        refine w_after (cells1 := 2) (slots1 := 12) (w_runS E kS_CT_313 kc_J6_bitCount_0f7a4 (t_Integer_bitCount l hfl G x5 M r ((fun z => (.inl (some (.int z)), M, r)) z9) (by rw [hz]; rfl)) ⟨Nat.le_of_ble_eq_true rfl, Nat.le_of_ble_eq_true rfl⟩ hw rfl hl.1 rfl (Nat.le_of_ble_eq_true rfl) dX11_told_45 ⟨Nat.le_of_ble_eq_true rfl, Nat.le_of_ble_eq_true rfl⟩) hw rfl (Nat.le_of_ble_eq_true rfl) (Nat.le_of_ble_eq_true rfl) (fun H locs hw => ?_)
        refine W.eq (g2 := F0 m 48 ls [.int z9]) rfl ?_
        have hw : w_W G M r s H locs := hw
        refine lv_iload hx hb dX11_told_48 (lv_at hl 4 rfl) ?_
        refine cx_icmp_ne (tgt := 67) E dX11_told_50 (by decide) (fun _ => ?_) (fun _ => ?_)
        · refine lv_iinc (v := x5 + 1) (lv' := [(5, .int (x5 + 1)), (0, .ref this), (1, .int a0), (2, .int a1), (3, .int x3), (4, .int x4)]) hx hb dX11_told_67 hl (k := 5) rfl rfl (by decide) rfl (fun ls hl => ?_)
          refine lv_goto (tgt := 37) hx hb dX11_told_70 (by decide) ?_
          exact ih x3 x4 (x5 + 1) M _ _ _ hw (lv_sub hl [1, 2, 3, 4, 5, 0] rfl)
        · refine lv_aload_n hx hb dX11_told_53 rfl (lv_at hl 0 rfl) ?_
          refine lv_iload_n hx hb dX11_told_54 rfl (lv_at hl 1 rfl) ?_
          refine lv_iload_n hx hb dX11_told_55 rfl (lv_at hl 2 rfl) ?_
          refine lv_iload hx hb dX11_told_56 (lv_at hl 5 rfl) ?_
          refine W_bind fun _ hck => ?_
          refine W_bind fun z10 hz => ?_
          refine w_after (cells1 := 2) (slots1 := 12) (w_runV E kV_CT_363 kc_X11_wins (t_CT_wins l hfl G N this a0 a1 x5 M r ((fun z => (.inl (some (.int z.1)), z.2, r)) z10) (by rw [hz]; rfl)) ⟨Nat.le_of_ble_eq_true rfl, Nat.le_of_ble_eq_true rfl⟩ hw (w_recv E hw (by decide) ⟨_, _, rfl⟩ (ck_ok hck)) rfl hl.1 rfl (Nat.le_of_ble_eq_true rfl) dX11_told_58 ⟨Nat.le_of_ble_eq_true rfl, Nat.le_of_ble_eq_true rfl⟩) hw rfl (Nat.le_of_ble_eq_true rfl) (Nat.le_of_ble_eq_true rfl) (fun H locs hw => ?_)
          refine W.eq (g2 := F0 m 61 ls [.int z10.1]) rfl ?_
          have hw : w_W G z10.2 r s H locs := hw
          refine cx_if_eq (tgt := 67) E dX11_told_61 (by decide) (fun _ => ?_) (fun _ => ?_)
          · refine lv_iinc (v := x5 + 1) (lv' := [(5, .int (x5 + 1)), (0, .ref this), (1, .int a0), (2, .int a1), (3, .int x3), (4, .int x4)]) hx hb dX11_told_67 hl (k := 5) rfl rfl (by decide) rfl (fun ls hl => ?_)
            refine lv_goto (tgt := 37) hx hb dX11_told_70 (by decide) ?_
            exact ih x3 x4 (x5 + 1) z10.2 _ _ _ hw (lv_sub hl [1, 2, 3, 4, 5, 0] rfl)
          · refine lv_iload hx hb dX11_told_64 (lv_at hl 5 rfl) ?_
            exact p_iret E hw hr (Nat.le_of_ble_eq_true rfl) (Nat.le_of_ble_eq_true rfl) rfl dX11_told_66
  have w22 : ∀ (n : Nat) (x3 : Int32) (x4 : Int32) (M : Mem) (H : Heap) (locs : List Loc) (ls : Array Slot), w_W G M r s H locs → lv_has ls 6 [(0, .ref this), (1, .int a0), (2, .int a1), (3, .int x3), (4, .int x4)] → W p l e rm_CT_told s m args below meth c H locs 2 12 (PQ G below args s rm_CT_told.cells rm_CT_told.slots (fun z => (z.1.elim (fun v => .inl (some (.int v))) .inr, z.2, r)) (f_CT_told_22 N this a0 a1 n x3 x4 M)) (F0 m 22 ls []) := by
    intro n
    induction n with
    | zero => intros; exact W_none
    | succ n ih =>
      intro x3 x4 M H locs ls hw hl
      rw [f_CT_told_22]
      refine lv_iload hx hb dX11_told_22 (lv_at hl 4 rfl) ?_
      refine lv_aload_n hx hb dX11_told_24 rfl (lv_at hl 0 rfl) ?_
      refine gx_getR E hw kF_CT_20_10 (by decide) dX11_told_25 (fun v7 _ => ?_)
      refine gx_getI E hw kF_CT_127_7 (by decide) dX11_told_28 (fun v8 _ => ?_)
      refine cx_icmp_ge (tgt := 79) E dX11_told_31 (by decide) (fun _ => ?_) (fun _ => ?_)
      · refine lv_iload_n hx hb dX11_told_79 rfl (lv_at hl 3 rfl) ?_
        exact p_iret E hw hr (Nat.le_of_ble_eq_true rfl) (Nat.le_of_ble_eq_true rfl) rfl dX11_told_80
      · refine lv_iconst (v := 0) hx hb dX11_told_34 (by decide) ?_
        refine lv_istore (lv' := [(5, .int 0), (0, .ref this), (1, .int a0), (2, .int a1), (3, .int x3), (4, .int x4)]) hx hb dX11_told_35 hl (by decide) rfl (fun ls hl => ?_)
        exact w37 (f_CT_told_22 N this a0 a1 n) ih N x3 x4 0 M _ _ _ hw (lv_sub hl [1, 2, 3, 4, 5, 0] rfl)
  unfold f_CT_told
  refine lv_iload_n hx hb dX11_told_0 rfl (lv_at hl 1 rfl) ?_
  refine W_bind fun z1 hz => ?_
  refine w_afterS (cells1 := 1) (slots1 := 6) (vv := (fun _ => none)) (w_runS E kS_CT_149 kc_X11_needGreeting (t_CT_needGreeting l hfl G a0 M r ((fun z => (z.1.elim (fun _ => .inl none) .inr, z.2, r)) z1) (by rw [hz]; rfl)) ⟨Nat.le_of_ble_eq_true rfl, Nat.le_of_ble_eq_true rfl⟩ hw rfl hl.1 rfl (Nat.le_of_ble_eq_true rfl) dX11_told_1 ⟨Nat.le_of_ble_eq_true rfl, Nat.le_of_ble_eq_true rfl⟩) hw rfl (Nat.le_of_ble_eq_true rfl) (Nat.le_of_ble_eq_true rfl) (fun v2 H locs _ hw => ?_) (fun E9 H locs q ce _ hw hce hcv hcl => w_out E hno hw hce hcv hcl (Nat.le_of_ble_eq_true rfl) (Nat.le_of_ble_eq_true rfl) rfl)
  refine W.eq (g2 := F0 m 4 ls []) rfl ?_
  have hw : w_W G z1.2 r s H locs := hw
  refine lv_iload_n hx hb dX11_told_4 rfl (lv_at hl 2 rfl) ?_
  refine lv_iconst (v := 0) hx hb dX11_told_5 (by decide) ?_
  refine lv_bipush (v := 60) hx hb dX11_told_6 (by decide) ?_
  refine W_bind fun z3 hz => ?_
  refine w_afterS (cells1 := 2) (slots1 := 12) (vv := (fun _ => none)) (w_runS E kS_CT_227 kc_X11_needNumber (t_CT_needNumber l hfl G a1 0 60 z1.2 r ((fun z => (z.1.elim (fun _ => .inl none) .inr, z.2, r)) z3) (by rw [hz]; rfl)) ⟨Nat.le_of_ble_eq_true rfl, Nat.le_of_ble_eq_true rfl⟩ hw rfl hl.1 rfl (Nat.le_of_ble_eq_true rfl) dX11_told_8 ⟨Nat.le_of_ble_eq_true rfl, Nat.le_of_ble_eq_true rfl⟩) hw rfl (Nat.le_of_ble_eq_true rfl) (Nat.le_of_ble_eq_true rfl) (fun v4 H locs _ hw => ?_) (fun E9 H locs q ce _ hw hce hcv hcl => w_out E hno hw hce hcv hcl (Nat.le_of_ble_eq_true rfl) (Nat.le_of_ble_eq_true rfl) rfl)
  refine W.eq (g2 := F0 m 11 ls []) rfl ?_
  have hw : w_W G z3.2 r s H locs := hw
  refine lv_aload_n hx hb dX11_told_11 rfl (lv_at hl 0 rfl) ?_
  refine gx_getR E hw kF_CT_20_10 (by decide) dX11_told_12 (fun v5 _ => ?_)
  refine W_bind fun _ hck => ?_
  refine W_bind fun z6 hz => ?_
  refine w_after (cells1 := 2) (slots1 := 12) (w_runV E kV_CT_310 kc_X8_everybody (t_Town_everybody l hfl G v5 z3.2 r ((fun z => (.inl (some (.int z)), z3.2, r)) z6) (by rw [hz]; rfl)) ⟨Nat.le_of_ble_eq_true rfl, Nat.le_of_ble_eq_true rfl⟩ hw (w_recv E hw (by decide) ⟨_, _, rfl⟩ (ck_ok hck)) rfl hl.1 rfl (Nat.le_of_ble_eq_true rfl) dX11_told_15 ⟨Nat.le_of_ble_eq_true rfl, Nat.le_of_ble_eq_true rfl⟩) hw rfl (Nat.le_of_ble_eq_true rfl) (Nat.le_of_ble_eq_true rfl) (fun H locs hw => ?_)
  refine W.eq (g2 := F0 m 18 ls [.int z6]) rfl ?_
  have hw : w_W G z3.2 r s H locs := hw
  refine lv_istore_n (lv' := [(3, .int z6), (0, .ref this), (1, .int a0), (2, .int a1)]) hx hb dX11_told_18 rfl hl (by decide) rfl (fun ls hl => ?_)
  refine lv_iconst (v := 0) hx hb dX11_told_19 (by decide) ?_
  refine lv_istore (lv' := [(4, .int 0), (3, .int z6), (0, .ref this), (1, .int a0), (2, .int a1)]) hx hb dX11_told_20 hl (by decide) rfl (fun ls hl => ?_)
  exact w22  N z6 0 z3.2 _ _ _ hw (lv_sub hl [2, 3, 4, 1, 0] rfl)
set_option maxHeartbeats 4000000 in
set_option maxRecDepth 100000 in
theorem t_Town_coldsAfter (l : Launch) (hfl : l.stackTraces = false) (G : wG) (N : Nat) (this : Nat) (a0 : Int32) (a1 : Int32) (M : Mem) (r : Rho) : Ctr l yX8_coldsAfter (wWs yX8_coldsAfter cX8_coldsAfter 8 (some .int)) rm_Town_coldsAfter rm_Town_coldsAfter.cells rm_Town_coldsAfter.slots G [.ref this, .int a0, .int a1] M r ((f_Town_coldsAfter N this a0 a1 M).map (fun z => (.inl (some (.int z)), M, r))) := by
  refine Ctr.ofF (own := "CheekTown$Town") (by decide +kernel) hfl rfl (Nat.le_of_ble_eq_true rfl) (fun p e s m args below meth c E hno hr hnm hw ls hl => ?_)
  obtain ⟨hx, hb, hts, hown, hml, hTT, -⟩ := id E
  have hl : lv_has ls 8 [(0, .ref this), (1, .int a0), (2, .int a1)] := hl
  obtain ⟨H, hH⟩ : ∃ H, H = s.heap := ⟨_, rfl⟩
  obtain ⟨locs, hlo⟩ : ∃ L : List Loc, L = [] := ⟨_, rfl⟩
  rw [← hH, ← hlo]
  rw [← hlo] at hw
  replace hw : w_W G M r s H locs := by rw [hH]; exact hw
  have w20 : ∀ (k8 : Int32 → Int32 → Option (Int32)) (hk8 : ∀ (x3 : Int32) (x4 : Int32) (H : Heap) (locs : List Loc) (ls : Array Slot), w_W G M r s H locs → lv_has ls 8 [(0, .ref this), (1, .int a0), (2, .int a1), (3, .int x3), (4, .int x4)] → W p l e rm_Town_coldsAfter s m args below meth c H locs 0 0 (PQ G below args s rm_Town_coldsAfter.cells rm_Town_coldsAfter.slots (fun z => (.inl (some (.int z)), M, r)) (k8 x3 x4)) (F0 m 8 ls [])) (n : Nat) (x3 : Int32) (x4 : Int32) (x5 : Int32) (x6 : Int32) (H : Heap) (locs : List Loc) (ls : Array Slot), w_W G M r s H locs → lv_has ls 8 [(0, .ref this), (1, .int a0), (2, .int a1), (3, .int x3), (4, .int x4), (5, .int x5), (6, .int x6)] → W p l e rm_Town_coldsAfter s m args below meth c H locs 0 0 (PQ G below args s rm_Town_coldsAfter.cells rm_Town_coldsAfter.slots (fun z => (.inl (some (.int z)), M, r)) (f_Town_coldsAfter_20 N this a0 a1 M k8 n x3 x4 x5 x6)) (F0 m 20 ls []) := by
    intro k8 hk8 n
    induction n with
    | zero => intros; exact W_none
    | succ n ih =>
      intro x3 x4 x5 x6 H locs ls hw hl
      rw [f_Town_coldsAfter_20]
      refine lv_iload hx hb dX8_coldsAfter_20 (lv_at hl 6 rfl) ?_
      refine lv_aload_n hx hb dX8_coldsAfter_22 rfl (lv_at hl 0 rfl) ?_
      refine gx_getI E hw kF_Town_59_7 (by decide) dX8_coldsAfter_23 (fun v2 _ => ?_)
      refine cx_icmp_ge (tgt := 75) E dX8_coldsAfter_26 (by decide) (fun _ => ?_) (fun _ => ?_)
      · refine lv_iload_n hx hb dX8_coldsAfter_75 rfl (lv_at hl 3 rfl) ?_
        refine lv_iload hx hb dX8_coldsAfter_76 (lv_at hl 5 rfl) ?_
        refine cx_icmp_ne (tgt := 83) E dX8_coldsAfter_78 (by decide) (fun _ => ?_) (fun _ => ?_)
        · refine lv_iinc (v := x4 + 1) (lv' := [(4, .int (x4 + 1)), (0, .ref this), (1, .int a0), (2, .int a1), (3, .int x3), (5, .int x5), (6, .int x6)]) hx hb dX8_coldsAfter_83 hl (k := 4) rfl rfl (by decide) rfl (fun ls hl => ?_)
          refine lv_goto (tgt := 8) hx hb dX8_coldsAfter_86 (by decide) ?_
          exact hk8 x3 (x4 + 1) _ _ _ hw (lv_sub hl [1, 2, 3, 4, 0] rfl)
        · refine lv_iload_n hx hb dX8_coldsAfter_81 rfl (lv_at hl 3 rfl) ?_
          exact p_iret E hw hr (Nat.le_of_ble_eq_true rfl) (Nat.le_of_ble_eq_true rfl) rfl dX8_coldsAfter_82
      · refine lv_iconst (v := 1) hx hb dX8_coldsAfter_29 (by decide) ?_
        refine lv_aload_n hx hb dX8_coldsAfter_30 rfl (lv_at hl 0 rfl) ?_
        refine gx_getR E hw kF_Town_24_7 (by decide) dX8_coldsAfter_31 (fun v3 _ => ?_)
        refine lv_iload hx hb dX8_coldsAfter_34 (lv_at hl 6 rfl) ?_
        refine gx_iald E hw dX8_coldsAfter_36 (fun v4 _ => ?_)
        refine lv_ishl hx hb dX8_coldsAfter_37 ?_
        refine lv_iconst (v := 1) hx hb dX8_coldsAfter_38 (by decide) ?_
        refine lv_aload_n hx hb dX8_coldsAfter_39 rfl (lv_at hl 0 rfl) ?_
        refine gx_getR E hw kF_Town_28_7 (by decide) dX8_coldsAfter_40 (fun v5 _ => ?_)
        refine lv_iload hx hb dX8_coldsAfter_43 (lv_at hl 6 rfl) ?_
        refine gx_iald E hw dX8_coldsAfter_45 (fun v6 _ => ?_)
        refine lv_ishl hx hb dX8_coldsAfter_46 ?_
        refine lv_ior hx hb dX8_coldsAfter_47 ?_
        refine lv_istore (lv' := [(7, .int ((1 <<< (v4 &&& 31)) ||| (1 <<< (v6 &&& 31)))), (0, .ref this), (1, .int a0), (2, .int a1), (3, .int x3), (4, .int x4), (5, .int x5), (6, .int x6)]) hx hb dX8_coldsAfter_48 hl (by decide) rfl (fun ls hl => ?_)
        refine lv_iload hx hb dX8_coldsAfter_50 (lv_at hl 0 rfl) ?_
        refine lv_iload_n hx hb dX8_coldsAfter_52 rfl (lv_at hl 2 rfl) ?_
        refine lv_iand hx hb dX8_coldsAfter_53 ?_
        refine cx_if_ne (tgt := 69) E dX8_coldsAfter_54 (by decide) (fun _ => ?_) (fun _ => ?_)
        · refine lv_iinc (v := x6 + 1) (lv' := [(6, .int (x6 + 1)), (7, .int ((1 <<< (v4 &&& 31)) ||| (1 <<< (v6 &&& 31)))), (0, .ref this), (1, .int a0), (2, .int a1), (3, .int x3), (4, .int x4), (5, .int x5)]) hx hb dX8_coldsAfter_69 hl (k := 7) rfl rfl (by decide) rfl (fun ls hl => ?_)
          refine lv_goto (tgt := 20) hx hb dX8_coldsAfter_72 (by decide) ?_
          exact ih x3 x4 x5 (x6 + 1) _ _ _ hw (lv_sub hl [2, 3, 4, 5, 6, 7, 0] rfl)
        · refine lv_iload hx hb dX8_coldsAfter_57 (lv_at hl 0 rfl) ?_
          refine lv_iload_n hx hb dX8_coldsAfter_59 rfl (lv_at hl 4 rfl) ?_
          refine lv_iand hx hb dX8_coldsAfter_60 ?_
          refine cx_if_eq (tgt := 69) E dX8_coldsAfter_61 (by decide) (fun _ => ?_) (fun _ => ?_)
          · refine lv_iinc (v := x6 + 1) (lv' := [(6, .int (x6 + 1)), (7, .int ((1 <<< (v4 &&& 31)) ||| (1 <<< (v6 &&& 31)))), (0, .ref this), (1, .int a0), (2, .int a1), (3, .int x3), (4, .int x4), (5, .int x5)]) hx hb dX8_coldsAfter_69 hl (k := 7) rfl rfl (by decide) rfl (fun ls hl => ?_)
            refine lv_goto (tgt := 20) hx hb dX8_coldsAfter_72 (by decide) ?_
            exact ih x3 x4 x5 (x6 + 1) _ _ _ hw (lv_sub hl [2, 3, 4, 5, 6, 7, 0] rfl)
          · refine lv_iload_n hx hb dX8_coldsAfter_64 rfl (lv_at hl 4 rfl) ?_
            refine lv_iload hx hb dX8_coldsAfter_65 (lv_at hl 0 rfl) ?_
            refine lv_ior hx hb dX8_coldsAfter_67 ?_
            refine lv_istore_n (lv' := [(3, .int (x3 ||| ((1 <<< (v4 &&& 31)) ||| (1 <<< (v6 &&& 31))))), (7, .int ((1 <<< (v4 &&& 31)) ||| (1 <<< (v6 &&& 31)))), (0, .ref this), (1, .int a0), (2, .int a1), (4, .int x4), (5, .int x5), (6, .int x6)]) hx hb dX8_coldsAfter_68 rfl hl (by decide) rfl (fun ls hl => ?_)
            refine lv_iinc (v := x6 + 1) (lv' := [(6, .int (x6 + 1)), (3, .int (x3 ||| ((1 <<< (v4 &&& 31)) ||| (1 <<< (v6 &&& 31))))), (7, .int ((1 <<< (v4 &&& 31)) ||| (1 <<< (v6 &&& 31)))), (0, .ref this), (1, .int a0), (2, .int a1), (4, .int x4), (5, .int x5)]) hx hb dX8_coldsAfter_69 hl (k := 7) rfl rfl (by decide) rfl (fun ls hl => ?_)
            refine lv_goto (tgt := 20) hx hb dX8_coldsAfter_72 (by decide) ?_
            exact ih (x3 ||| ((1 <<< (v4 &&& 31)) ||| (1 <<< (v6 &&& 31)))) x4 x5 (x6 + 1) _ _ _ hw (lv_sub hl [3, 4, 5, 1, 6, 7, 0] rfl)
  have w8 : ∀ (n : Nat) (x3 : Int32) (x4 : Int32) (H : Heap) (locs : List Loc) (ls : Array Slot), w_W G M r s H locs → lv_has ls 8 [(0, .ref this), (1, .int a0), (2, .int a1), (3, .int x3), (4, .int x4)] → W p l e rm_Town_coldsAfter s m args below meth c H locs 0 0 (PQ G below args s rm_Town_coldsAfter.cells rm_Town_coldsAfter.slots (fun z => (.inl (some (.int z)), M, r)) (f_Town_coldsAfter_8 N this a0 a1 M n x3 x4)) (F0 m 8 ls []) := by
    intro n
    induction n with
    | zero => intros; exact W_none
    | succ n ih =>
      intro x3 x4 H locs ls hw hl
      rw [f_Town_coldsAfter_8]
      refine lv_iload hx hb dX8_coldsAfter_8 (lv_at hl 4 rfl) ?_
      refine lv_iload_n hx hb dX8_coldsAfter_10 rfl (lv_at hl 2 rfl) ?_
      refine cx_icmp_ge (tgt := 89) E dX8_coldsAfter_11 (by decide) (fun _ => ?_) (fun _ => ?_)
      · refine lv_iload_n hx hb dX8_coldsAfter_89 rfl (lv_at hl 3 rfl) ?_
        exact p_iret E hw hr (Nat.le_of_ble_eq_true rfl) (Nat.le_of_ble_eq_true rfl) rfl dX8_coldsAfter_90
      · refine lv_iload_n hx hb dX8_coldsAfter_14 rfl (lv_at hl 3 rfl) ?_
        refine lv_istore (lv' := [(5, .int x3), (0, .ref this), (1, .int a0), (2, .int a1), (3, .int x3), (4, .int x4)]) hx hb dX8_coldsAfter_15 hl (by decide) rfl (fun ls hl => ?_)
        refine lv_iconst (v := 0) hx hb dX8_coldsAfter_17 (by decide) ?_
        refine lv_istore (lv' := [(6, .int 0), (5, .int x3), (0, .ref this), (1, .int a0), (2, .int a1), (3, .int x3), (4, .int x4)]) hx hb dX8_coldsAfter_18 hl (by decide) rfl (fun ls hl => ?_)
        exact w20 (f_Town_coldsAfter_8 N this a0 a1 M n) ih N x3 x4 x3 0 _ _ _ hw (lv_sub hl [2, 3, 4, 5, 6, 1, 0] rfl)
  unfold f_Town_coldsAfter
  refine lv_aload_n hx hb dX8_coldsAfter_0 rfl (lv_at hl 0 rfl) ?_
  refine W_bind fun _ hck => ?_
  refine W_bind fun z1 hz => ?_
  refine w_after (cells1 := 0) (slots1 := 0) (w_runV E kV_Town_182 kc_X8_peopleWithCold (t_Town_peopleWithCold l hfl G N this M r ((fun z => (.inl (some (.int z)), M, r)) z1) (by rw [hz]; rfl)) ⟨Nat.le_of_ble_eq_true rfl, Nat.le_of_ble_eq_true rfl⟩ hw (w_recv E hw (by decide) ⟨_, _, rfl⟩ (ck_ok hck)) rfl hl.1 rfl (Nat.le_of_ble_eq_true rfl) dX8_coldsAfter_1 ⟨Nat.le_of_ble_eq_true rfl, Nat.le_of_ble_eq_true rfl⟩) hw rfl (Nat.le_of_ble_eq_true rfl) (Nat.le_of_ble_eq_true rfl) (fun H locs hw => ?_)
  refine W.eq (g2 := F0 m 4 ls [.int z1]) rfl ?_
  have hw : w_W G M r s H locs := hw
  refine lv_istore_n (lv' := [(3, .int z1), (0, .ref this), (1, .int a0), (2, .int a1)]) hx hb dX8_coldsAfter_4 rfl hl (by decide) rfl (fun ls hl => ?_)
  refine lv_iconst (v := 0) hx hb dX8_coldsAfter_5 (by decide) ?_
  refine lv_istore (lv' := [(4, .int 0), (3, .int z1), (0, .ref this), (1, .int a0), (2, .int a1)]) hx hb dX8_coldsAfter_6 hl (by decide) rfl (fun ls hl => ?_)
  exact w8  N z1 0 _ _ _ hw (lv_sub hl [2, 3, 4, 1, 0] rfl)
set_option maxHeartbeats 4000000 in
set_option maxRecDepth 100000 in
theorem t_CT_colds (l : Launch) (hfl : l.stackTraces = false) (G : wG) (N : Nat) (this : Nat) (a0 : Int32) (a1 : Int32) (M : Mem) (r : Rho) : Ctr l yX11_colds (wWs yX11_colds cX11_colds 3 (some .int)) rm_CT_colds rm_CT_colds.cells rm_CT_colds.slots G [.ref this, .int a0, .int a1] M r ((f_CT_colds N this a0 a1 M).map (fun z => (z.1.elim (fun v => .inl (some (.int v))) .inr, z.2, r))) := by
  refine Ctr.ofF (own := "CheekTown") (by decide +kernel) hfl rfl (Nat.le_of_ble_eq_true rfl) (fun p e s m args below meth c E hno hr hnm hw ls hl => ?_)
  obtain ⟨hx, hb, hts, hown, hml, hTT, -⟩ := id E
  have hl : lv_has ls 3 [(0, .ref this), (1, .int a0), (2, .int a1)] := hl
  obtain ⟨H, hH⟩ : ∃ H, H = s.heap := ⟨_, rfl⟩
  obtain ⟨locs, hlo⟩ : ∃ L : List Loc, L = [] := ⟨_, rfl⟩
  rw [← hH, ← hlo]
  rw [← hlo] at hw
  replace hw : w_W G M r s H locs := by rw [hH]; exact hw
  unfold f_CT_colds
  refine lv_iload_n hx hb dX11_colds_0 rfl (lv_at hl 2 rfl) ?_
  refine lv_iconst (v := 0) hx hb dX11_colds_1 (by decide) ?_
  refine lv_bipush (v := 20) hx hb dX11_colds_2 (by decide) ?_
  refine W_bind fun z1 hz => ?_
  refine w_afterS (cells1 := 1) (slots1 := 6) (vv := (fun _ => none)) (w_runS E kS_CT_227 kc_X11_needNumber (t_CT_needNumber l hfl G a1 0 20 M r ((fun z => (z.1.elim (fun _ => .inl none) .inr, z.2, r)) z1) (by rw [hz]; rfl)) ⟨Nat.le_of_ble_eq_true rfl, Nat.le_of_ble_eq_true rfl⟩ hw rfl hl.1 rfl (Nat.le_of_ble_eq_true rfl) dX11_colds_4 ⟨Nat.le_of_ble_eq_true rfl, Nat.le_of_ble_eq_true rfl⟩) hw rfl (Nat.le_of_ble_eq_true rfl) (Nat.le_of_ble_eq_true rfl) (fun v2 H locs _ hw => ?_) (fun E9 H locs q ce _ hw hce hcv hcl => w_out E hno hw hce hcv hcl (Nat.le_of_ble_eq_true rfl) (Nat.le_of_ble_eq_true rfl) rfl)
  refine W.eq (g2 := F0 m 7 ls []) rfl ?_
  have hw : w_W G z1.2 r s H locs := hw
  refine lv_aload_n hx hb dX11_colds_7 rfl (lv_at hl 0 rfl) ?_
  refine gx_getR E hw kF_CT_20_10 (by decide) dX11_colds_8 (fun v3 _ => ?_)
  refine lv_iload_n hx hb dX11_colds_11 rfl (lv_at hl 1 rfl) ?_
  refine lv_iload_n hx hb dX11_colds_12 rfl (lv_at hl 2 rfl) ?_
  refine W_bind fun _ hck => ?_
  refine W_bind fun z4 hz => ?_
  refine w_after (cells1 := 1) (slots1 := 6) (w_runV E kV_CT_370 kc_X8_coldsAfter (t_Town_coldsAfter l hfl G N v3 a0 a1 z1.2 r ((fun z => (.inl (some (.int z)), z1.2, r)) z4) (by rw [hz]; rfl)) ⟨Nat.le_of_ble_eq_true rfl, Nat.le_of_ble_eq_true rfl⟩ hw (w_recv E hw (by decide) ⟨_, _, rfl⟩ (ck_ok hck)) rfl hl.1 rfl (Nat.le_of_ble_eq_true rfl) dX11_colds_13 ⟨Nat.le_of_ble_eq_true rfl, Nat.le_of_ble_eq_true rfl⟩) hw rfl (Nat.le_of_ble_eq_true rfl) (Nat.le_of_ble_eq_true rfl) (fun H locs hw => ?_)
  refine W.eq (g2 := F0 m 16 ls [.int z4]) rfl ?_
  have hw : w_W G z1.2 r s H locs := hw
  exact p_iret E hw hr (Nat.le_of_ble_eq_true rfl) (Nat.le_of_ble_eq_true rfl) rfl dX11_colds_16
set_option maxHeartbeats 4000000 in
set_option maxRecDepth 100000 in
theorem t_CT_spared (l : Launch) (hfl : l.stackTraces = false) (G : wG) (N : Nat) (this : Nat) (a0 : Int32) (a1 : Int32) (M : Mem) (r : Rho) : Ctr l yX11_spared (wWs yX11_spared cX11_spared 7 (some .int)) rm_CT_spared rm_CT_spared.cells rm_CT_spared.slots G [.ref this, .int a0, .int a1] M r ((f_CT_spared N this a0 a1 M).map (fun z => (z.1.elim (fun v => .inl (some (.int v))) .inr, z.2, r))) := by
  refine Ctr.ofF (own := "CheekTown") (by decide +kernel) hfl rfl (Nat.le_of_ble_eq_true rfl) (fun p e s m args below meth c E hno hr hnm hw ls hl => ?_)
  obtain ⟨hx, hb, hts, hown, hml, hTT, -⟩ := id E
  have hl : lv_has ls 7 [(0, .ref this), (1, .int a0), (2, .int a1)] := hl
  obtain ⟨H, hH⟩ : ∃ H, H = s.heap := ⟨_, rfl⟩
  obtain ⟨locs, hlo⟩ : ∃ L : List Loc, L = [] := ⟨_, rfl⟩
  rw [← hH, ← hlo]
  rw [← hlo] at hw
  replace hw : w_W G M r s H locs := by rw [hH]; exact hw
  have w92 : ∀ (k47 : Int32 → Int32 → Mem → Option ((Int32 ⊕ String) × Mem)) (hk47 : ∀ (x3 : Int32) (x4 : Int32) (M : Mem) (H : Heap) (locs : List Loc) (ls : Array Slot), w_W G M r s H locs → lv_has ls 7 [(0, .ref this), (1, .int a0), (2, .int a1), (3, .int x3), (4, .int x4)] → W p l e rm_CT_spared s m args below meth c H locs 2 12 (PQ G below args s rm_CT_spared.cells rm_CT_spared.slots (fun z => (z.1.elim (fun v => .inl (some (.int v))) .inr, z.2, r)) (k47 x3 x4 M)) (F0 m 47 ls [])) (k62 : Int32 → Int32 → Int32 → Mem → Option ((Int32 ⊕ String) × Mem)) (hk62 : ∀ (x3 : Int32) (x4 : Int32) (x5 : Int32) (M : Mem) (H : Heap) (locs : List Loc) (ls : Array Slot), w_W G M r s H locs → lv_has ls 7 [(0, .ref this), (1, .int a0), (2, .int a1), (3, .int x3), (4, .int x4), (5, .int x5)] → W p l e rm_CT_spared s m args below meth c H locs 2 12 (PQ G below args s rm_CT_spared.cells rm_CT_spared.slots (fun z => (z.1.elim (fun v => .inl (some (.int v))) .inr, z.2, r)) (k62 x3 x4 x5 M)) (F0 m 62 ls [])) (x3 : Int32) (x4 : Int32) (x5 : Int32) (y0 : Int32) (M : Mem) (H : Heap) (locs : List Loc) (ls : Array Slot), w_W G M r s H locs → lv_has ls 7 [(0, .ref this), (1, .int a0), (2, .int a1), (3, .int x3), (4, .int x4), (5, .int x5)] → W p l e rm_CT_spared s m args below meth c H locs 2 12 (PQ G below args s rm_CT_spared.cells rm_CT_spared.slots (fun z => (z.1.elim (fun v => .inl (some (.int v))) .inr, z.2, r)) (f_CT_spared_92 N this a0 a1 k47 k62 x3 x4 x5 y0 M)) (F0 m 92 ls [.int y0]) := by
    intro k47 hk47 k62 hk62 x3 x4 x5 y0 M H locs ls hw hl
    unfold f_CT_spared_92
    refine lv_istore (lv' := [(6, .int y0), (0, .ref this), (1, .int a0), (2, .int a1), (3, .int x3), (4, .int x4), (5, .int x5)]) hx hb dX11_spared_92 hl (by decide) rfl (fun ls hl => ?_)
    refine lv_iload hx hb dX11_spared_94 (lv_at hl 0 rfl) ?_
    refine cx_if_eq (tgt := 119) E dX11_spared_96 (by decide) (fun _ => ?_) (fun _ => ?_)
    · refine lv_iinc (v := x5 + 1) (lv' := [(5, .int (x5 + 1)), (6, .int y0), (0, .ref this), (1, .int a0), (2, .int a1), (3, .int x3), (4, .int x4)]) hx hb dX11_spared_119 hl (k := 6) rfl rfl (by decide) rfl (fun ls hl => ?_)
      refine lv_goto (tgt := 62) hx hb dX11_spared_122 (by decide) ?_
      exact hk62 x3 x4 (x5 + 1) M _ _ _ hw (lv_sub hl [2, 3, 4, 5, 6, 0] rfl)
    · refine lv_aload_n hx hb dX11_spared_99 rfl (lv_at hl 1 rfl) ?_
      refine gx_getR E hw kF_CT_20_10 (by decide) dX11_spared_100 (fun v14 _ => ?_)
      refine lv_iload hx hb dX11_spared_103 (lv_at hl 6 rfl) ?_
      refine lv_iload_n hx hb dX11_spared_105 rfl (lv_at hl 3 rfl) ?_
      refine W_bind fun _ hck => ?_
      refine W_bind fun z15 hz => ?_
      refine w_after (cells1 := 2) (slots1 := 12) (w_runV E kV_CT_370 kc_X8_coldsAfter (t_Town_coldsAfter l hfl G N v14 x5 a1 M r ((fun z => (.inl (some (.int z)), M, r)) z15) (by rw [hz]; rfl)) ⟨Nat.le_of_ble_eq_true rfl, Nat.le_of_ble_eq_true rfl⟩ hw (w_recv E hw (by decide) ⟨_, _, rfl⟩ (ck_ok hck)) rfl hl.1 rfl (Nat.le_of_ble_eq_true rfl) dX11_spared_106 ⟨Nat.le_of_ble_eq_true rfl, Nat.le_of_ble_eq_true rfl⟩) hw rfl (Nat.le_of_ble_eq_true rfl) (Nat.le_of_ble_eq_true rfl) (fun H locs hw => ?_)
      refine W.eq (g2 := F0 m 109 ls [.int z15]) rfl ?_
      have hw : w_W G M r s H locs := hw
      refine lv_iload_n hx hb dX11_spared_109 rfl (lv_at hl 2 rfl) ?_
      refine W_bind fun z16 hz => ?_
      refine w_after (cells1 := 2) (slots1 := 12) (w_runS E kS_CT_252 kc_X11_isIn (t_CT_isIn l hfl G z15 a0 M r ((fun z => (.inl (some (.int z)), M, r)) z16) (by rw [hz]; rfl)) ⟨Nat.le_of_ble_eq_true rfl, Nat.le_of_ble_eq_true rfl⟩ hw rfl hl.1 rfl (Nat.le_of_ble_eq_true rfl) dX11_spared_110 ⟨Nat.le_of_ble_eq_true rfl, Nat.le_of_ble_eq_true rfl⟩) hw rfl (Nat.le_of_ble_eq_true rfl) (Nat.le_of_ble_eq_true rfl) (fun H locs hw => ?_)
      refine W.eq (g2 := F0 m 113 ls [.int z16]) rfl ?_
      have hw : w_W G M r s H locs := hw
      refine cx_if_ne (tgt := 119) E dX11_spared_113 (by decide) (fun _ => ?_) (fun _ => ?_)
      · refine lv_iinc (v := x5 + 1) (lv' := [(5, .int (x5 + 1)), (6, .int y0), (0, .ref this), (1, .int a0), (2, .int a1), (3, .int x3), (4, .int x4)]) hx hb dX11_spared_119 hl (k := 6) rfl rfl (by decide) rfl (fun ls hl => ?_)
        refine lv_goto (tgt := 62) hx hb dX11_spared_122 (by decide) ?_
        exact hk62 x3 x4 (x5 + 1) M _ _ _ hw (lv_sub hl [2, 3, 4, 5, 6, 0] rfl)
      · refine lv_iload hx hb dX11_spared_116 (lv_at hl 6 rfl) ?_
        exact p_iret E hw hr (Nat.le_of_ble_eq_true rfl) (Nat.le_of_ble_eq_true rfl) rfl dX11_spared_118
  have w91 : ∀ (k47 : Int32 → Int32 → Mem → Option ((Int32 ⊕ String) × Mem)) (hk47 : ∀ (x3 : Int32) (x4 : Int32) (M : Mem) (H : Heap) (locs : List Loc) (ls : Array Slot), w_W G M r s H locs → lv_has ls 7 [(0, .ref this), (1, .int a0), (2, .int a1), (3, .int x3), (4, .int x4)] → W p l e rm_CT_spared s m args below meth c H locs 2 12 (PQ G below args s rm_CT_spared.cells rm_CT_spared.slots (fun z => (z.1.elim (fun v => .inl (some (.int v))) .inr, z.2, r)) (k47 x3 x4 M)) (F0 m 47 ls [])) (k62 : Int32 → Int32 → Int32 → Mem → Option ((Int32 ⊕ String) × Mem)) (hk62 : ∀ (x3 : Int32) (x4 : Int32) (x5 : Int32) (M : Mem) (H : Heap) (locs : List Loc) (ls : Array Slot), w_W G M r s H locs → lv_has ls 7 [(0, .ref this), (1, .int a0), (2, .int a1), (3, .int x3), (4, .int x4), (5, .int x5)] → W p l e rm_CT_spared s m args below meth c H locs 2 12 (PQ G below args s rm_CT_spared.cells rm_CT_spared.slots (fun z => (z.1.elim (fun v => .inl (some (.int v))) .inr, z.2, r)) (k62 x3 x4 x5 M)) (F0 m 62 ls [])) (x3 : Int32) (x4 : Int32) (x5 : Int32) (M : Mem) (H : Heap) (locs : List Loc) (ls : Array Slot), w_W G M r s H locs → lv_has ls 7 [(0, .ref this), (1, .int a0), (2, .int a1), (3, .int x3), (4, .int x4), (5, .int x5)] → W p l e rm_CT_spared s m args below meth c H locs 2 12 (PQ G below args s rm_CT_spared.cells rm_CT_spared.slots (fun z => (z.1.elim (fun v => .inl (some (.int v))) .inr, z.2, r)) (f_CT_spared_91 N this a0 a1 k47 k62 x3 x4 x5 M)) (F0 m 91 ls []) := by
    intro k47 hk47 k62 hk62 x3 x4 x5 M H locs ls hw hl
    unfold f_CT_spared_91
    refine lv_iconst (v := 0) hx hb dX11_spared_91 (by decide) ?_
    exact w92 k47 hk47 k62 hk62 x3 x4 x5 0 M _ _ _ hw (lv_sub hl [0, 1, 2, 3, 4, 5] rfl)
  have w62 : ∀ (k47 : Int32 → Int32 → Mem → Option ((Int32 ⊕ String) × Mem)) (hk47 : ∀ (x3 : Int32) (x4 : Int32) (M : Mem) (H : Heap) (locs : List Loc) (ls : Array Slot), w_W G M r s H locs → lv_has ls 7 [(0, .ref this), (1, .int a0), (2, .int a1), (3, .int x3), (4, .int x4)] → W p l e rm_CT_spared s m args below meth c H locs 2 12 (PQ G below args s rm_CT_spared.cells rm_CT_spared.slots (fun z => (z.1.elim (fun v => .inl (some (.int v))) .inr, z.2, r)) (k47 x3 x4 M)) (F0 m 47 ls [])) (n : Nat) (x3 : Int32) (x4 : Int32) (x5 : Int32) (M : Mem) (H : Heap) (locs : List Loc) (ls : Array Slot), w_W G M r s H locs → lv_has ls 7 [(0, .ref this), (1, .int a0), (2, .int a1), (3, .int x3), (4, .int x4), (5, .int x5)] → W p l e rm_CT_spared s m args below meth c H locs 2 12 (PQ G below args s rm_CT_spared.cells rm_CT_spared.slots (fun z => (z.1.elim (fun v => .inl (some (.int v))) .inr, z.2, r)) (f_CT_spared_62 N this a0 a1 k47 n x3 x4 x5 M)) (F0 m 62 ls []) := by
    intro k47 hk47 n
    induction n with
    | zero => intros; exact W_none
    | succ n ih =>
      intro x3 x4 x5 M H locs ls hw hl
      rw [f_CT_spared_62]
      refine lv_iload hx hb dX11_spared_62 (lv_at hl 5 rfl) ?_
      refine lv_iload_n hx hb dX11_spared_64 rfl (lv_at hl 3 rfl) ?_
      refine cx_icmp_ge (tgt := 125) E dX11_spared_65 (by decide) (fun _ => ?_) (fun _ => ?_)
      · refine lv_iinc (v := x4 + 1) (lv' := [(4, .int (x4 + 1)), (0, .ref this), (1, .int a0), (2, .int a1), (3, .int x3), (5, .int x5)]) hx hb dX11_spared_125 hl (k := 4) rfl rfl (by decide) rfl (fun ls hl => ?_)
        refine lv_goto (tgt := 47) hx hb dX11_spared_128 (by decide) ?_
        exact hk47 x3 (x4 + 1) M _ _ _ hw (lv_sub hl [1, 2, 3, 4, 0] rfl)
      · refine lv_iload hx hb dX11_spared_68 (lv_at hl 5 rfl) ?_
        refine lv_iload_n hx hb dX11_spared_70 rfl (lv_at hl 3 rfl) ?_
        refine lv_iconst (v := (-1)) hx hb dX11_spared_71 (by decide) ?_
        refine lv_ixor hx hb dX11_spared_72 ?_
        refine lv_iand hx hb dX11_spared_73 ?_
        refine cx_if_ne (tgt := 91) E dX11_spared_74 (by decide) (fun _ => ?_) (fun _ => ?_)
        · exact w91 k47 hk47 (f_CT_spared_62 N this a0 a1 k47 n) ih x3 x4 x5 M _ _ _ hw (lv_sub hl [0, 1, 2, 3, 4, 5] rfl)
        · refine lv_iload hx hb dX11_spared_77 (lv_at hl 5 rfl) ?_
          refine W_bind fun z13 hz => ?_
          refine w_after (cells1 := 2) (slots1 := 12) (w_runS E kS_CT_313 kc_J6_bitCount_0f7a4 (t_Integer_bitCount l hfl G x5 M r ((fun z => (.inl (some (.int z)), M, r)) z13) (by rw [hz]; rfl)) ⟨Nat.le_of_ble_eq_true rfl, Nat.le_of_ble_eq_true rfl⟩ hw rfl hl.1 rfl (Nat.le_of_ble_eq_true rfl) dX11_spared_79 ⟨Nat.le_of_ble_eq_true rfl, Nat.le_of_ble_eq_true rfl⟩) hw rfl (Nat.le_of_ble_eq_true rfl) (Nat.le_of_ble_eq_true rfl) (fun H locs hw => ?_)
          refine W.eq (g2 := F0 m 82 ls [.int z13]) rfl ?_
          have hw : w_W G M r s H locs := hw
          refine lv_iload hx hb dX11_spared_82 (lv_at hl 4 rfl) ?_
          refine cx_icmp_ne (tgt := 91) E dX11_spared_84 (by decide) (fun _ => ?_) (fun _ => ?_)
          · exact w91 k47 hk47 (f_CT_spared_62 N this a0 a1 k47 n) ih x3 x4 x5 M _ _ _ hw (lv_sub hl [0, 1, 2, 3, 4, 5] rfl)
          · refine lv_iconst (v := 1) hx hb dX11_spared_87 (by decide) ?_
            refine lv_goto (tgt := 92) hx hb dX11_spared_88 (by decide) ?_
            exact w92 k47 hk47 (f_CT_spared_62 N this a0 a1 k47 n) ih x3 x4 x5 1 M _ _ _ hw (lv_sub hl [0, 1, 2, 3, 4, 5] rfl)
  have w47 : ∀ (n : Nat) (x3 : Int32) (x4 : Int32) (M : Mem) (H : Heap) (locs : List Loc) (ls : Array Slot), w_W G M r s H locs → lv_has ls 7 [(0, .ref this), (1, .int a0), (2, .int a1), (3, .int x3), (4, .int x4)] → W p l e rm_CT_spared s m args below meth c H locs 2 12 (PQ G below args s rm_CT_spared.cells rm_CT_spared.slots (fun z => (z.1.elim (fun v => .inl (some (.int v))) .inr, z.2, r)) (f_CT_spared_47 N this a0 a1 n x3 x4 M)) (F0 m 47 ls []) := by
    intro n
    induction n with
    | zero => intros; exact W_none
    | succ n ih =>
      intro x3 x4 M H locs ls hw hl
      rw [f_CT_spared_47]
      refine lv_iload hx hb dX11_spared_47 (lv_at hl 4 rfl) ?_
      refine lv_aload_n hx hb dX11_spared_49 rfl (lv_at hl 0 rfl) ?_
      refine gx_getR E hw kF_CT_20_10 (by decide) dX11_spared_50 (fun v11 _ => ?_)
      refine gx_getI E hw kF_CT_127_7 (by decide) dX11_spared_53 (fun v12 _ => ?_)
      refine cx_icmp_ge (tgt := 131) E dX11_spared_56 (by decide) (fun _ => ?_) (fun _ => ?_)
      · refine lv_iload_n hx hb dX11_spared_131 rfl (lv_at hl 3 rfl) ?_
        exact p_iret E hw hr (Nat.le_of_ble_eq_true rfl) (Nat.le_of_ble_eq_true rfl) rfl dX11_spared_132
      · refine lv_iconst (v := 0) hx hb dX11_spared_59 (by decide) ?_
        refine lv_istore (lv' := [(5, .int 0), (0, .ref this), (1, .int a0), (2, .int a1), (3, .int x3), (4, .int x4)]) hx hb dX11_spared_60 hl (by decide) rfl (fun ls hl => ?_)
        exact w62 (f_CT_spared_47 N this a0 a1 n) ih N x3 x4 0 M _ _ _ hw (lv_sub hl [1, 2, 3, 4, 5, 0] rfl)
  unfold f_CT_spared
  refine lv_aload_n hx hb dX11_spared_0 rfl (lv_at hl 0 rfl) ?_
  refine lv_iload_n hx hb dX11_spared_1 rfl (lv_at hl 1 rfl) ?_
  refine W_bind fun _ hck => ?_
  refine W_bind fun z1 hz => ?_
  refine w_afterS (cells1 := 1) (slots1 := 6) (vv := (fun _ => none)) (w_runV E kV_CT_132 kc_X11_needPerson (t_CT_needPerson l hfl G this a0 M r ((fun z => (z.1.elim (fun _ => .inl none) .inr, z.2, r)) z1) (by rw [hz]; rfl)) ⟨Nat.le_of_ble_eq_true rfl, Nat.le_of_ble_eq_true rfl⟩ hw (w_recv E hw (by decide) ⟨_, _, rfl⟩ (ck_ok hck)) rfl hl.1 rfl (Nat.le_of_ble_eq_true rfl) dX11_spared_2 ⟨Nat.le_of_ble_eq_true rfl, Nat.le_of_ble_eq_true rfl⟩) hw rfl (Nat.le_of_ble_eq_true rfl) (Nat.le_of_ble_eq_true rfl) (fun v2 H locs _ hw => ?_) (fun E9 H locs q ce _ hw hce hcv hcl => w_out E hno hw hce hcv hcl (Nat.le_of_ble_eq_true rfl) (Nat.le_of_ble_eq_true rfl) rfl)
  refine W.eq (g2 := F0 m 5 ls []) rfl ?_
  have hw : w_W G z1.2 r s H locs := hw
  refine lv_iload_n hx hb dX11_spared_5 rfl (lv_at hl 2 rfl) ?_
  refine lv_iconst (v := 0) hx hb dX11_spared_6 (by decide) ?_
  refine lv_bipush (v := 20) hx hb dX11_spared_7 (by decide) ?_
  refine W_bind fun z3 hz => ?_
  refine w_afterS (cells1 := 2) (slots1 := 12) (vv := (fun _ => none)) (w_runS E kS_CT_227 kc_X11_needNumber (t_CT_needNumber l hfl G a1 0 20 z1.2 r ((fun z => (z.1.elim (fun _ => .inl none) .inr, z.2, r)) z3) (by rw [hz]; rfl)) ⟨Nat.le_of_ble_eq_true rfl, Nat.le_of_ble_eq_true rfl⟩ hw rfl hl.1 rfl (Nat.le_of_ble_eq_true rfl) dX11_spared_9 ⟨Nat.le_of_ble_eq_true rfl, Nat.le_of_ble_eq_true rfl⟩) hw rfl (Nat.le_of_ble_eq_true rfl) (Nat.le_of_ble_eq_true rfl) (fun v4 H locs _ hw => ?_) (fun E9 H locs q ce _ hw hce hcv hcl => w_out E hno hw hce hcv hcl (Nat.le_of_ble_eq_true rfl) (Nat.le_of_ble_eq_true rfl) rfl)
  refine W.eq (g2 := F0 m 12 ls []) rfl ?_
  have hw : w_W G z3.2 r s H locs := hw
  refine lv_aload_n hx hb dX11_spared_12 rfl (lv_at hl 0 rfl) ?_
  refine gx_getR E hw kF_CT_20_10 (by decide) dX11_spared_13 (fun v5 _ => ?_)
  refine gx_getR E hw kF_CT_172_7 (by decide) dX11_spared_16 (fun v6 _ => ?_)
  refine lv_iload_n hx hb dX11_spared_19 rfl (lv_at hl 1 rfl) ?_
  refine gx_aald E hw (by decide) dX11_spared_20 (fun v7 _ => ?_)
  refine gx_getI E hw kF_CT_190_5 (by decide) dX11_spared_21 (fun v8 _ => ?_)
  refine cx_if_eq (tgt := 30) E dX11_spared_24 (by decide) (fun _ => ?_) (fun _ => ?_)
  · refine lv_aload_n hx hb dX11_spared_30 rfl (lv_at hl 0 rfl) ?_
    refine gx_getR E hw kF_CT_20_10 (by decide) dX11_spared_31 (fun v9 _ => ?_)
    refine W_bind fun _ hck => ?_
    refine W_bind fun z10 hz => ?_
    refine w_after (cells1 := 2) (slots1 := 12) (w_runV E kV_CT_310 kc_X8_everybody (t_Town_everybody l hfl G v9 z3.2 r ((fun z => (.inl (some (.int z)), z3.2, r)) z10) (by rw [hz]; rfl)) ⟨Nat.le_of_ble_eq_true rfl, Nat.le_of_ble_eq_true rfl⟩ hw (w_recv E hw (by decide) ⟨_, _, rfl⟩ (ck_ok hck)) rfl hl.1 rfl (Nat.le_of_ble_eq_true rfl) dX11_spared_34 ⟨Nat.le_of_ble_eq_true rfl, Nat.le_of_ble_eq_true rfl⟩) hw rfl (Nat.le_of_ble_eq_true rfl) (Nat.le_of_ble_eq_true rfl) (fun H locs hw => ?_)
    refine W.eq (g2 := F0 m 37 ls [.int z10]) rfl ?_
    have hw : w_W G z3.2 r s H locs := hw
    refine lv_iconst (v := 1) hx hb dX11_spared_37 (by decide) ?_
    refine lv_iload_n hx hb dX11_spared_38 rfl (lv_at hl 1 rfl) ?_
    refine lv_ishl hx hb dX11_spared_39 ?_
    refine lv_iconst (v := (-1)) hx hb dX11_spared_40 (by decide) ?_
    refine lv_ixor hx hb dX11_spared_41 ?_
    refine lv_iand hx hb dX11_spared_42 ?_
    refine lv_istore_n (lv' := [(3, .int (z10 &&& ((1 <<< (a0 &&& 31)) ^^^ (-1)))), (0, .ref this), (1, .int a0), (2, .int a1)]) hx hb dX11_spared_43 rfl hl (by decide) rfl (fun ls hl => ?_)
    refine lv_iconst (v := 0) hx hb dX11_spared_44 (by decide) ?_
    refine lv_istore (lv' := [(4, .int 0), (3, .int (z10 &&& ((1 <<< (a0 &&& 31)) ^^^ (-1)))), (0, .ref this), (1, .int a0), (2, .int a1)]) hx hb dX11_spared_45 hl (by decide) rfl (fun ls hl => ?_)
    exact w47  N (z10 &&& ((1 <<< (a0 &&& 31)) ^^^ (-1))) 0 z3.2 _ _ _ hw (lv_sub hl [2, 3, 4, 1, 0] rfl)
  · refine lv_bipush (v := (-2)) hx hb dX11_spared_27 (by decide) ?_
    exact p_iret E hw hr (Nat.le_of_ble_eq_true rfl) (Nat.le_of_ble_eq_true rfl) rfl dX11_spared_29
set_option maxHeartbeats 4000000 in
set_option maxRecDepth 100000 in
theorem t_CT_trial (l : Launch) (hfl : l.stackTraces = false) (G : wG) (N : Nat) (this : Nat) (a0 : Int32) (a1 : Int32) (M : Mem) (r : Rho) : Ctr l yX11_trial (wWs yX11_trial cX11_trial 4 (some .int)) rm_CT_trial rm_CT_trial.cells rm_CT_trial.slots G [.ref this, .int a0, .int a1] M r ((f_CT_trial N this a0 a1 M).map (fun z => (z.1.elim (fun v => .inl (some (.int v))) .inr, z.2, r))) := by
  refine Ctr.ofF (own := "CheekTown") (by decide +kernel) hfl rfl (Nat.le_of_ble_eq_true rfl) (fun p e s m args below meth c E hno hr hnm hw ls hl => ?_)
  obtain ⟨hx, hb, hts, hown, hml, hTT, -⟩ := id E
  have hl : lv_has ls 4 [(0, .ref this), (1, .int a0), (2, .int a1)] := hl
  obtain ⟨H, hH⟩ : ∃ H, H = s.heap := ⟨_, rfl⟩
  obtain ⟨locs, hlo⟩ : ∃ L : List Loc, L = [] := ⟨_, rfl⟩
  rw [← hH, ← hlo]
  rw [← hlo] at hw
  replace hw : w_W G M r s H locs := by rw [hH]; exact hw
  unfold f_CT_trial
  refine lv_iload_n hx hb dX11_trial_0 rfl (lv_at hl 1 rfl) ?_
  refine lv_iconst (v := 0) hx hb dX11_trial_1 (by decide) ?_
  refine lv_bipush (v := 20) hx hb dX11_trial_2 (by decide) ?_
  refine W_bind fun z1 hz => ?_
  refine w_afterS (cells1 := 1) (slots1 := 6) (vv := (fun _ => none)) (w_runS E kS_CT_227 kc_X11_needNumber (t_CT_needNumber l hfl G a0 0 20 M r ((fun z => (z.1.elim (fun _ => .inl none) .inr, z.2, r)) z1) (by rw [hz]; rfl)) ⟨Nat.le_of_ble_eq_true rfl, Nat.le_of_ble_eq_true rfl⟩ hw rfl hl.1 rfl (Nat.le_of_ble_eq_true rfl) dX11_trial_4 ⟨Nat.le_of_ble_eq_true rfl, Nat.le_of_ble_eq_true rfl⟩) hw rfl (Nat.le_of_ble_eq_true rfl) (Nat.le_of_ble_eq_true rfl) (fun v2 H locs _ hw => ?_) (fun E9 H locs q ce _ hw hce hcv hcl => w_out E hno hw hce hcv hcl (Nat.le_of_ble_eq_true rfl) (Nat.le_of_ble_eq_true rfl) rfl)
  refine W.eq (g2 := F0 m 7 ls []) rfl ?_
  have hw : w_W G z1.2 r s H locs := hw
  refine lv_iload_n hx hb dX11_trial_7 rfl (lv_at hl 2 rfl) ?_
  refine lv_iconst (v := 3) hx hb dX11_trial_8 (by decide) ?_
  refine W_bind fun z3 hz => ?_
  refine w_afterS (cells1 := 2) (slots1 := 12) (vv := (fun _ => none)) (w_runS E kS_CT_168 kc_X11_needWhat (t_CT_needWhat l hfl G a1 3 z1.2 r ((fun z => (z.1.elim (fun _ => .inl none) .inr, z.2, r)) z3) (by rw [hz]; rfl)) ⟨Nat.le_of_ble_eq_true rfl, Nat.le_of_ble_eq_true rfl⟩ hw rfl hl.1 rfl (Nat.le_of_ble_eq_true rfl) dX11_trial_9 ⟨Nat.le_of_ble_eq_true rfl, Nat.le_of_ble_eq_true rfl⟩) hw rfl (Nat.le_of_ble_eq_true rfl) (Nat.le_of_ble_eq_true rfl) (fun v4 H locs _ hw => ?_) (fun E9 H locs q ce _ hw hce hcv hcl => w_out E hno hw hce hcv hcl (Nat.le_of_ble_eq_true rfl) (Nat.le_of_ble_eq_true rfl) rfl)
  refine W.eq (g2 := F0 m 12 ls []) rfl ?_
  have hw : w_W G z3.2 r s H locs := hw
  refine lv_aload_n hx hb dX11_trial_12 rfl (lv_at hl 0 rfl) ?_
  refine gx_getR E hw kF_CT_31_10 (by decide) dX11_trial_13 (fun v5 _ => ?_)
  refine lv_aload_n hx hb dX11_trial_16 rfl (lv_at hl 0 rfl) ?_
  refine gx_getR E hw kF_CT_20_10 (by decide) dX11_trial_17 (fun v6 _ => ?_)
  refine W_bind fun _ hck => ?_
  refine W_bind fun z7 hz => ?_
  refine w_after (cells1 := 2) (slots1 := 12) (w_runV E kV_CT_59 kc_X8_copyFrom (t_Town_copyFrom l hfl G N v5 v6 z3.2 r ((fun z => (.inl none, z, r)) z7) (by rw [hz]; rfl)) ⟨Nat.le_of_ble_eq_true rfl, Nat.le_of_ble_eq_true rfl⟩ hw (w_recv E hw (by decide) ⟨_, _, rfl⟩ (ck_ok hck)) rfl hl.1 rfl (Nat.le_of_ble_eq_true rfl) dX11_trial_20 ⟨Nat.le_of_ble_eq_true rfl, Nat.le_of_ble_eq_true rfl⟩) hw rfl (Nat.le_of_ble_eq_true rfl) (Nat.le_of_ble_eq_true rfl) (fun H locs hw => ?_)
  refine W.eq (g2 := F0 m 23 ls []) rfl ?_
  have hw : w_W G z7 r s H locs := hw
  refine lv_aload_n hx hb dX11_trial_23 rfl (lv_at hl 0 rfl) ?_
  refine gx_getR E hw kF_CT_31_10 (by decide) dX11_trial_24 (fun v8 _ => ?_)
  refine lv_iload_n hx hb dX11_trial_27 rfl (lv_at hl 1 rfl) ?_
  refine W_bind fun _ hck => ?_
  refine W_bind fun z9 hz => ?_
  refine w_after (cells1 := 2) (slots1 := 12) (w_runV E kV_CT_231 kc_X8_passRounds (t_Town_passRounds l hfl G N v8 a0 z7 r ((fun z => (.inl (some (.int z.1)), z.2, r)) z9) (by rw [hz]; rfl)) ⟨Nat.le_of_ble_eq_true rfl, Nat.le_of_ble_eq_true rfl⟩ hw (w_recv E hw (by decide) ⟨_, _, rfl⟩ (ck_ok hck)) rfl hl.1 rfl (Nat.le_of_ble_eq_true rfl) dX11_trial_28 ⟨Nat.le_of_ble_eq_true rfl, Nat.le_of_ble_eq_true rfl⟩) hw rfl (Nat.le_of_ble_eq_true rfl) (Nat.le_of_ble_eq_true rfl) (fun H locs hw => ?_)
  refine W.eq (g2 := F0 m 31 ls [.int z9.1]) rfl ?_
  have hw : w_W G z9.2 r s H locs := hw
  refine lv_istore_n (lv' := [(3, .int z9.1), (0, .ref this), (1, .int a0), (2, .int a1)]) hx hb dX11_trial_31 rfl hl (by decide) rfl (fun ls hl => ?_)
  refine lv_iload_n hx hb dX11_trial_32 rfl (lv_at hl 3 rfl) ?_
  refine cx_tab 0 (tgt := 60) E dX11_trial_33 (by decide) (by decide) rfl (by decide) (fun _ => ?_) (fun hn0 => ?_)
  · refine lv_iload_n hx hb dX11_trial_60 rfl (lv_at hl 0 rfl) ?_
    exact p_iret E hw hr (Nat.le_of_ble_eq_true rfl) (Nat.le_of_ble_eq_true rfl) rfl dX11_trial_61
  refine cx_tab 1 (tgt := 62) E dX11_trial_33 (by decide) (by decide) rfl (by decide) (fun _ => ?_) (fun hn1 => ?_)
  · refine lv_aload_n hx hb dX11_trial_62 rfl (lv_at hl 1 rfl) ?_
    refine gx_getR E hw kF_CT_31_10 (by decide) dX11_trial_63 (fun v10 _ => ?_)
    refine gx_getI E hw kF_CT_391_7 (by decide) dX11_trial_66 (fun v11 _ => ?_)
    refine lv_aload_n hx hb dX11_trial_69 rfl (lv_at hl 1 rfl) ?_
    refine gx_getR E hw kF_CT_20_10 (by decide) dX11_trial_70 (fun v12 _ => ?_)
    refine gx_getI E hw kF_CT_391_7 (by decide) dX11_trial_73 (fun v13 _ => ?_)
    refine lv_isub hx hb dX11_trial_76 ?_
    exact p_iret E hw hr (Nat.le_of_ble_eq_true rfl) (Nat.le_of_ble_eq_true rfl) rfl dX11_trial_77
  refine cx_tab 2 (tgt := 78) E dX11_trial_33 (by decide) (by decide) rfl (by decide) (fun _ => ?_) (fun hn2 => ?_)
  · refine lv_aload_n hx hb dX11_trial_78 rfl (lv_at hl 1 rfl) ?_
    refine gx_getR E hw kF_CT_37_10 (by decide) dX11_trial_79 (fun v14 _ => ?_)
    refine lv_aload_n hx hb dX11_trial_82 rfl (lv_at hl 1 rfl) ?_
    refine gx_getR E hw kF_CT_31_10 (by decide) dX11_trial_83 (fun v15 _ => ?_)
    refine W_bind fun _ hck => ?_
    refine W_bind fun z16 hz => ?_
    refine w_after (cells1 := 2) (slots1 := 12) (w_runV E kV_CT_341 kc_X10_startFrom (t_Years_startFrom l hfl G N v14 v15 z9.2 r ((fun z => (.inl none, z, r)) z16) (by rw [hz]; rfl)) ⟨Nat.le_of_ble_eq_true rfl, Nat.le_of_ble_eq_true rfl⟩ hw (w_recv E hw (by decide) ⟨_, _, rfl⟩ (ck_ok hck)) rfl hl.1 rfl (Nat.le_of_ble_eq_true rfl) dX11_trial_86 ⟨Nat.le_of_ble_eq_true rfl, Nat.le_of_ble_eq_true rfl⟩) hw rfl (Nat.le_of_ble_eq_true rfl) (Nat.le_of_ble_eq_true rfl) (fun H locs hw => ?_)
    refine W.eq (g2 := F0 m 89 ls []) rfl ?_
    have hw : w_W G z16 r s H locs := hw
    refine lv_aload_n hx hb dX11_trial_89 rfl (lv_at hl 1 rfl) ?_
    refine gx_getR E hw kF_CT_37_10 (by decide) dX11_trial_90 (fun v17 _ => ?_)
    refine W_bind fun _ hck => ?_
    refine W_bind fun z18 hz => ?_
    refine w_after (cells1 := 2) (slots1 := 12) (w_runV E kV_CT_347 kc_X10_kinds (t_Years_kinds l hfl G N v17 z16 r ((fun z => (.inl (some (.int z)), z16, r)) z18) (by rw [hz]; rfl)) ⟨Nat.le_of_ble_eq_true rfl, Nat.le_of_ble_eq_true rfl⟩ hw (w_recv E hw (by decide) ⟨_, _, rfl⟩ (ck_ok hck)) rfl hl.1 rfl (Nat.le_of_ble_eq_true rfl) dX11_trial_93 ⟨Nat.le_of_ble_eq_true rfl, Nat.le_of_ble_eq_true rfl⟩) hw rfl (Nat.le_of_ble_eq_true rfl) (Nat.le_of_ble_eq_true rfl) (fun H locs hw => ?_)
    refine W.eq (g2 := F0 m 96 ls [.int z18]) rfl ?_
    have hw : w_W G z16 r s H locs := hw
    exact p_iret E hw hr (Nat.le_of_ble_eq_true rfl) (Nat.le_of_ble_eq_true rfl) rfl dX11_trial_96
  refine lv_tableOut (tgt := 97) hx hb dX11_trial_33 (by have h9 := (⟨hn0, hn1, hn2⟩ : a1.toInt ≠ 0 ∧ a1.toInt ≠ 1 ∧ a1.toInt ≠ 2); omega) (by decide) ?_
  refine lv_aload_n hx hb dX11_trial_97 rfl (lv_at hl 1 rfl) ?_
  refine gx_getR E hw kF_CT_31_10 (by decide) dX11_trial_98 (fun v19 _ => ?_)
  refine W_bind fun _ hck => ?_
  refine W_bind fun z20 hz => ?_
  refine w_after (cells1 := 2) (slots1 := 12) (w_runV E kV_CT_394 kc_X8_peopleWithCold (t_Town_peopleWithCold l hfl G N v19 z9.2 r ((fun z => (.inl (some (.int z)), z9.2, r)) z20) (by rw [hz]; rfl)) ⟨Nat.le_of_ble_eq_true rfl, Nat.le_of_ble_eq_true rfl⟩ hw (w_recv E hw (by decide) ⟨_, _, rfl⟩ (ck_ok hck)) rfl hl.1 rfl (Nat.le_of_ble_eq_true rfl) dX11_trial_101 ⟨Nat.le_of_ble_eq_true rfl, Nat.le_of_ble_eq_true rfl⟩) hw rfl (Nat.le_of_ble_eq_true rfl) (Nat.le_of_ble_eq_true rfl) (fun H locs hw => ?_)
  refine W.eq (g2 := F0 m 104 ls [.int z20]) rfl ?_
  have hw : w_W G z9.2 r s H locs := hw
  exact p_iret E hw hr (Nat.le_of_ble_eq_true rfl) (Nat.le_of_ble_eq_true rfl) rfl dX11_trial_104
set_option maxHeartbeats 4000000 in
set_option maxRecDepth 100000 in
theorem t_CT_span (l : Launch) (hfl : l.stackTraces = false) (G : wG) (N : Nat) (this : Nat) (a0 : Int32) (a1 : Int32) (M : Mem) (r : Rho) : Ctr l yX11_span (wWs yX11_span cX11_span 7 (some .int)) rm_CT_span rm_CT_span.cells rm_CT_span.slots G [.ref this, .int a0, .int a1] M r ((f_CT_span N this a0 a1 M).map (fun z => (z.1.elim (fun v => .inl (some (.int v))) .inr, z.2, r))) := by
  refine Ctr.ofF (own := "CheekTown") (by decide +kernel) hfl rfl (Nat.le_of_ble_eq_true rfl) (fun p e s m args below meth c E hno hr hnm hw ls hl => ?_)
  obtain ⟨hx, hb, hts, hown, hml, hTT, -⟩ := id E
  have hl : lv_has ls 7 [(0, .ref this), (1, .int a0), (2, .int a1)] := hl
  obtain ⟨H, hH⟩ : ∃ H, H = s.heap := ⟨_, rfl⟩
  obtain ⟨locs, hlo⟩ : ∃ L : List Loc, L = [] := ⟨_, rfl⟩
  rw [← hH, ← hlo]
  rw [← hlo] at hw
  replace hw : w_W G M r s H locs := by rw [hH]; exact hw
  have w17 : ∀ (n : Nat) (x3 : Int32) (x4 : Int32) (x5 : Int32) (M : Mem) (H : Heap) (locs : List Loc) (ls : Array Slot), w_W G M r s H locs → lv_has ls 7 [(0, .ref this), (1, .int a0), (2, .int a1), (3, .int x3), (4, .int x4), (5, .int x5)] → W p l e rm_CT_span s m args below meth c H locs 1 6 (PQ G below args s rm_CT_span.cells rm_CT_span.slots (fun z => (z.1.elim (fun v => .inl (some (.int v))) .inr, z.2, r)) (f_CT_span_17 N this a0 a1 n x3 x4 x5 M)) (F0 m 17 ls []) := by
    intro n
    induction n with
    | zero => intros; exact W_none
    | succ n ih =>
      intro x3 x4 x5 M H locs ls hw hl
      rw [f_CT_span_17]
      refine lv_iload hx hb dX11_span_17 (lv_at hl 5 rfl) ?_
      refine lv_bipush (v := 6) hx hb dX11_span_19 (by decide) ?_
      refine cx_icmp_gt (tgt := 76) E dX11_span_21 (by decide) (fun _ => ?_) (fun _ => ?_)
      · refine lv_iload_n hx hb dX11_span_76 rfl (lv_at hl 2 rfl) ?_
        refine cx_if_eq (tgt := 85) E dX11_span_77 (by decide) (fun _ => ?_) (fun _ => ?_)
        · refine lv_iload_n hx hb dX11_span_85 rfl (lv_at hl 3 rfl) ?_
          exact p_iret E hw hr (Nat.le_of_ble_eq_true rfl) (Nat.le_of_ble_eq_true rfl) rfl dX11_span_86
        · refine lv_iload hx hb dX11_span_80 (lv_at hl 4 rfl) ?_
          refine lv_goto (tgt := 86) hx hb dX11_span_82 (by decide) ?_
          exact p_iret E hw hr (Nat.le_of_ble_eq_true rfl) (Nat.le_of_ble_eq_true rfl) rfl dX11_span_86
      · refine lv_aload_n hx hb dX11_span_24 rfl (lv_at hl 0 rfl) ?_
        refine gx_getR E hw kF_CT_31_10 (by decide) dX11_span_25 (fun v3 _ => ?_)
        refine lv_aload_n hx hb dX11_span_28 rfl (lv_at hl 0 rfl) ?_
        refine gx_getR E hw kF_CT_20_10 (by decide) dX11_span_29 (fun v4 _ => ?_)
        refine W_bind fun _ hck => ?_
        refine W_bind fun z5 hz => ?_
        refine w_after (cells1 := 1) (slots1 := 6) (w_runV E kV_CT_59 kc_X8_copyFrom (t_Town_copyFrom l hfl G N v3 v4 M r ((fun z => (.inl none, z, r)) z5) (by rw [hz]; rfl)) ⟨Nat.le_of_ble_eq_true rfl, Nat.le_of_ble_eq_true rfl⟩ hw (w_recv E hw (by decide) ⟨_, _, rfl⟩ (ck_ok hck)) rfl hl.1 rfl (Nat.le_of_ble_eq_true rfl) dX11_span_32 ⟨Nat.le_of_ble_eq_true rfl, Nat.le_of_ble_eq_true rfl⟩) hw rfl (Nat.le_of_ble_eq_true rfl) (Nat.le_of_ble_eq_true rfl) (fun H locs hw => ?_)
        refine W.eq (g2 := F0 m 35 ls []) rfl ?_
        have hw : w_W G z5 r s H locs := hw
        refine lv_aload_n hx hb dX11_span_35 rfl (lv_at hl 0 rfl) ?_
        refine gx_getR E hw kF_CT_31_10 (by decide) dX11_span_36 (fun v6 _ => ?_)
        refine lv_iload hx hb dX11_span_39 (lv_at hl 5 rfl) ?_
        refine gx_putI E hw kF_CT_397_7 kT_7_8 (by decide) dX11_span_41 (fun M7 H locs _ hw => ?_)
        refine lv_aload_n hx hb dX11_span_44 rfl (lv_at hl 0 rfl) ?_
        refine gx_getR E hw kF_CT_31_10 (by decide) dX11_span_45 (fun v8 _ => ?_)
        refine lv_iload_n hx hb dX11_span_48 rfl (lv_at hl 1 rfl) ?_
        refine W_bind fun _ hck => ?_
        refine W_bind fun z9 hz => ?_
        refine w_after (cells1 := 1) (slots1 := 6) (w_runV E kV_CT_231 kc_X8_passRounds (t_Town_passRounds l hfl G N v8 a0 M7 r ((fun z => (.inl (some (.int z.1)), z.2, r)) z9) (by rw [hz]; rfl)) ⟨Nat.le_of_ble_eq_true rfl, Nat.le_of_ble_eq_true rfl⟩ hw (w_recv E hw (by decide) ⟨_, _, rfl⟩ (ck_ok hck)) rfl hl.1 rfl (Nat.le_of_ble_eq_true rfl) dX11_span_49 ⟨Nat.le_of_ble_eq_true rfl, Nat.le_of_ble_eq_true rfl⟩) hw rfl (Nat.le_of_ble_eq_true rfl) (Nat.le_of_ble_eq_true rfl) (fun H locs hw => ?_)
        refine W.eq (g2 := F0 m 52 ls [.int z9.1]) rfl ?_
        have hw : w_W G z9.2 r s H locs := hw
        refine lv_istore (lv' := [(6, .int z9.1), (0, .ref this), (1, .int a0), (2, .int a1), (3, .int x3), (4, .int x4), (5, .int x5)]) hx hb dX11_span_52 hl (by decide) rfl (fun ls hl => ?_)
        refine lv_iload_n hx hb dX11_span_54 rfl (lv_at hl 4 rfl) ?_
        refine lv_iload hx hb dX11_span_55 (lv_at hl 0 rfl) ?_
        refine W_bind fun z10 hz => ?_
        refine w_after (cells1 := 1) (slots1 := 6) (w_runS E kS_CT_289 kc_J9_min_7cf53 (t_Math_min l hfl G x3 z9.1 z9.2 r ((fun z => (.inl (some (.int z)), z9.2, r)) z10) (by rw [hz]; rfl)) ⟨Nat.le_of_ble_eq_true rfl, Nat.le_of_ble_eq_true rfl⟩ hw rfl hl.1 rfl (Nat.le_of_ble_eq_true rfl) dX11_span_57 ⟨Nat.le_of_ble_eq_true rfl, Nat.le_of_ble_eq_true rfl⟩) hw rfl (Nat.le_of_ble_eq_true rfl) (Nat.le_of_ble_eq_true rfl) (fun H locs hw => ?_)
        refine W.eq (g2 := F0 m 60 ls [.int z10]) rfl ?_
        have hw : w_W G z9.2 r s H locs := hw
        refine lv_istore_n (lv' := [(3, .int z10), (6, .int z9.1), (0, .ref this), (1, .int a0), (2, .int a1), (4, .int x4), (5, .int x5)]) hx hb dX11_span_60 rfl hl (by decide) rfl (fun ls hl => ?_)
        refine lv_iload hx hb dX11_span_61 (lv_at hl 5 rfl) ?_
        refine lv_iload hx hb dX11_span_63 (lv_at hl 1 rfl) ?_
        refine W_bind fun z11 hz => ?_
        refine w_after (cells1 := 1) (slots1 := 6) (w_runS E kS_CT_335 kc_J9_max_7cf53 (t_Math_max l hfl G x4 z9.1 z9.2 r ((fun z => (.inl (some (.int z)), z9.2, r)) z11) (by rw [hz]; rfl)) ⟨Nat.le_of_ble_eq_true rfl, Nat.le_of_ble_eq_true rfl⟩ hw rfl hl.1 rfl (Nat.le_of_ble_eq_true rfl) dX11_span_65 ⟨Nat.le_of_ble_eq_true rfl, Nat.le_of_ble_eq_true rfl⟩) hw rfl (Nat.le_of_ble_eq_true rfl) (Nat.le_of_ble_eq_true rfl) (fun H locs hw => ?_)
        refine W.eq (g2 := F0 m 68 ls [.int z11]) rfl ?_
        have hw : w_W G z9.2 r s H locs := hw
        refine lv_istore (lv' := [(4, .int z11), (3, .int z10), (6, .int z9.1), (0, .ref this), (1, .int a0), (2, .int a1), (5, .int x5)]) hx hb dX11_span_68 hl (by decide) rfl (fun ls hl => ?_)
        refine lv_iinc (v := x5 + 1) (lv' := [(5, .int (x5 + 1)), (4, .int z11), (3, .int z10), (6, .int z9.1), (0, .ref this), (1, .int a0), (2, .int a1)]) hx hb dX11_span_70 hl (k := 6) rfl rfl (by decide) rfl (fun ls hl => ?_)
        refine lv_goto (tgt := 17) hx hb dX11_span_73 (by decide) ?_
        exact ih z10 z11 (x5 + 1) z9.2 _ _ _ hw (lv_sub hl [4, 5, 6, 2, 1, 0] rfl)
  unfold f_CT_span
  refine lv_iload_n hx hb dX11_span_0 rfl (lv_at hl 1 rfl) ?_
  refine lv_iconst (v := 0) hx hb dX11_span_1 (by decide) ?_
  refine lv_bipush (v := 20) hx hb dX11_span_2 (by decide) ?_
  refine W_bind fun z1 hz => ?_
  refine w_afterS (cells1 := 1) (slots1 := 6) (vv := (fun _ => none)) (w_runS E kS_CT_227 kc_X11_needNumber (t_CT_needNumber l hfl G a0 0 20 M r ((fun z => (z.1.elim (fun _ => .inl none) .inr, z.2, r)) z1) (by rw [hz]; rfl)) ⟨Nat.le_of_ble_eq_true rfl, Nat.le_of_ble_eq_true rfl⟩ hw rfl hl.1 rfl (Nat.le_of_ble_eq_true rfl) dX11_span_4 ⟨Nat.le_of_ble_eq_true rfl, Nat.le_of_ble_eq_true rfl⟩) hw rfl (Nat.le_of_ble_eq_true rfl) (Nat.le_of_ble_eq_true rfl) (fun v2 H locs _ hw => ?_) (fun E9 H locs q ce _ hw hce hcv hcl => w_out E hno hw hce hcv hcl (Nat.le_of_ble_eq_true rfl) (Nat.le_of_ble_eq_true rfl) rfl)
  refine W.eq (g2 := F0 m 7 ls []) rfl ?_
  have hw : w_W G z1.2 r s H locs := hw
  refine lv_ldcw hx hb hown (hts _ kC_CT_285) dX11_span_7 ?_
  refine lv_istore_n (lv' := [(3, .int 1000000000), (0, .ref this), (1, .int a0), (2, .int a1)]) hx hb dX11_span_10 rfl hl (by decide) rfl (fun ls hl => ?_)
  refine lv_iconst (v := 0) hx hb dX11_span_11 (by decide) ?_
  refine lv_istore (lv' := [(4, .int 0), (3, .int 1000000000), (0, .ref this), (1, .int a0), (2, .int a1)]) hx hb dX11_span_12 hl (by decide) rfl (fun ls hl => ?_)
  refine lv_iconst (v := 1) hx hb dX11_span_14 (by decide) ?_
  refine lv_istore (lv' := [(5, .int 1), (4, .int 0), (3, .int 1000000000), (0, .ref this), (1, .int a0), (2, .int a1)]) hx hb dX11_span_15 hl (by decide) rfl (fun ls hl => ?_)
  exact w17  N 1000000000 0 1 z1.2 _ _ _ hw (lv_sub hl [3, 4, 5, 2, 1, 0] rfl)

