set_option maxHeartbeats 4000000 in
set_option maxRecDepth 100000 in
theorem t_R_will (l : Launch) (hfl : l.stackTraces = false) (G : wG) (on : g_on G = true) (N : Nat) (a0 : Int32) (a1 : Int32) (M : Mem) (r : Rho) : Ctr l yX12_will (wWs yX12_will cX12_will 3 (some .int)) rm_R_will rm_R_will.cells rm_R_will.slots G [.ref (g_r G), .int a0, .int a1] M r ((f_R_will N a0 a1 r).map (fun z => (.inl (some (.int z.1)), M, z.2))) := by
  refine Ctr.ofF (own := "CheekTownModel") (by decide +kernel) hfl rfl (Nat.le_of_ble_eq_true rfl) (fun p e s m args below meth c E hno hr hnm hw ls hl => ?_)
  obtain ⟨hx, hb, hts, hown, hml, hTT, -⟩ := id E
  have hl : lv_has ls 3 [(0, .ref (g_r G)), (1, .int a0), (2, .int a1)] := hl
  obtain ⟨H, hH⟩ : ∃ H, H = s.heap := ⟨_, rfl⟩
  obtain ⟨locs, hlo⟩ : ∃ L : List Loc, L = [] := ⟨_, rfl⟩
  rw [← hH, ← hlo]
  rw [← hlo] at hw
  replace hw : w_W G M r s H locs := by rw [hH]; exact hw
  unfold f_R_will
  refine lv_aload_n hx hb dX12_will_0 rfl (lv_at hl 0 rfl) ?_
  refine lv_aload_n hx hb dX12_will_1 rfl (lv_at hl 0 rfl) ?_
  refine lv_iload_n hx hb dX12_will_2 rfl (lv_at hl 1 rfl) ?_
  refine lv_iload_n hx hb dX12_will_3 rfl (lv_at hl 2 rfl) ?_
  refine W_bind fun z1 hz => ?_
  refine w_after (cells1 := 0) (slots1 := 0) (w_runV E kV_R_277 kc_X12_two (t_R_two l hfl G on a0 a1 M r ((fun z => (.inl (some (.int z)), M, r)) z1) (by rw [hz]; rfl)) ⟨Nat.le_of_ble_eq_true rfl, Nat.le_of_ble_eq_true rfl⟩ hw (w_recvR E hw on) rfl hl.1 rfl (Nat.le_of_ble_eq_true rfl) dX12_will_4 ⟨Nat.le_of_ble_eq_true rfl, Nat.le_of_ble_eq_true rfl⟩) hw rfl (Nat.le_of_ble_eq_true rfl) (Nat.le_of_ble_eq_true rfl) (fun H locs hw => ?_)
  refine W.eq (g2 := F0 m 7 ls [.int z1, .ref (g_r G)]) rfl ?_
  have hw : w_W G M r s H locs := hw
  refine rx_putI E hw on kF_R_56_11 (by decide) kT_11_0 dX12_will_7 (fun H locs hw => ?_)
  refine lv_aload_n hx hb dX12_will_10 rfl (lv_at hl 0 rfl) ?_
  refine rx_getI E hw on kF_R_56_11 (by decide) dX12_will_11 ?_
  refine cx_if_le (tgt := 21) E dX12_will_14 (by decide) (fun _ => ?_) (fun _ => ?_)
  · refine lv_aload_n hx hb dX12_will_21 rfl (lv_at hl 0 rfl) ?_
    refine lv_iload_n hx hb dX12_will_22 rfl (lv_at hl 1 rfl) ?_
    refine lv_iload_n hx hb dX12_will_23 rfl (lv_at hl 2 rfl) ?_
    refine W_bind fun z2 hz => ?_
    refine w_after (cells1 := 0) (slots1 := 0) (w_runV E kV_R_280 kc_X12_beginning (t_R_beginning l hfl G on N a0 a1 M (r_set r 0 z1) ((fun z => (.inl (some (.int z.1)), M, z.2)) z2) (by rw [hz]; rfl)) ⟨Nat.le_of_ble_eq_true rfl, Nat.le_of_ble_eq_true rfl⟩ hw (w_recvR E hw on) rfl hl.1 rfl (Nat.le_of_ble_eq_true rfl) dX12_will_24 ⟨Nat.le_of_ble_eq_true rfl, Nat.le_of_ble_eq_true rfl⟩) hw rfl (Nat.le_of_ble_eq_true rfl) (Nat.le_of_ble_eq_true rfl) (fun H locs hw => ?_)
    refine W.eq (g2 := F0 m 27 ls [.int z2.1]) rfl ?_
    have hw : w_W G M z2.2 s H locs := hw
    exact p_iret E hw hr (Nat.le_of_ble_eq_true rfl) (Nat.le_of_ble_eq_true rfl) rfl dX12_will_27
  · refine lv_iconst (v := 0) hx hb dX12_will_17 (by decide) ?_
    refine lv_goto (tgt := 27) hx hb dX12_will_18 (by decide) ?_
    exact p_iret E hw hr (Nat.le_of_ble_eq_true rfl) (Nat.le_of_ble_eq_true rfl) rfl dX12_will_27
set_option maxHeartbeats 4000000 in
set_option maxRecDepth 100000 in
theorem t_R_remembers (l : Launch) (hfl : l.stackTraces = false) (G : wG) (on : g_on G = true) (N : Nat) (M : Mem) (r : Rho) : Ctr l yX12_remembers (wWs yX12_remembers cX12_remembers 2 none) rm_R_remembers rm_R_remembers.cells rm_R_remembers.slots G [.ref (g_r G)] M r ((f_R_remembers N r).map (fun z => (.inl none, M, z))) := by
  refine Ctr.ofF (own := "CheekTownModel") (by decide +kernel) hfl rfl (Nat.le_of_ble_eq_true rfl) (fun p e s m args below meth c E hno hr hnm hw ls hl => ?_)
  obtain ⟨hx, hb, hts, hown, hml, hTT, -⟩ := id E
  have hl : lv_has ls 2 [(0, .ref (g_r G))] := hl
  obtain ⟨H, hH⟩ : ∃ H, H = s.heap := ⟨_, rfl⟩
  obtain ⟨locs, hlo⟩ : ∃ L : List Loc, L = [] := ⟨_, rfl⟩
  rw [← hH, ← hlo]
  rw [← hlo] at hw
  replace hw : w_W G M r s H locs := by rw [hH]; exact hw
  have w52 : ∀ (n : Nat) (x1 : Int32) (r : Rho) (H : Heap) (locs : List Loc) (ls : Array Slot), w_W G M r s H locs → lv_has ls 2 [(0, .ref (g_r G)), (1, .int x1)] → W p l e rm_R_remembers s m args below meth c H locs 0 0 (PQ G below args s rm_R_remembers.cells rm_R_remembers.slots (fun z => (.inl none, M, z)) (f_R_remembers_52 N n x1 r)) (F0 m 52 ls []) := by
    intro n
    induction n with
    | zero => intros; exact W_none
    | succ n ih =>
      intro x1 r H locs ls hw hl
      rw [f_R_remembers_52]
      refine lv_iload_n hx hb dX12_remembers_52 rfl (lv_at hl 1 rfl) ?_
      refine lv_sipush (v := 900) hx hb dX12_remembers_53 (by decide) ?_
      refine cx_icmp_ge (tgt := 86) E dX12_remembers_56 (by decide) (fun _ => ?_) (fun _ => ?_)
      · refine lv_aload_n hx hb dX12_remembers_86 rfl (lv_at hl 0 rfl) ?_
        refine lv_dup hx hb dX12_remembers_87 rfl ?_
        refine rx_getI E hw on kF_R_207_11 (by decide) dX12_remembers_88 ?_
        refine lv_iconst (v := 1) hx hb dX12_remembers_91 (by decide) ?_
        refine lv_iadd hx hb dX12_remembers_92 ?_
        refine rx_putI E hw on kF_R_207_11 (by decide) kT_11_6 dX12_remembers_93 (fun H locs hw => ?_)
        exact p_vret E hw hr (Nat.le_of_ble_eq_true rfl) (Nat.le_of_ble_eq_true rfl) rfl dX12_remembers_96
      · refine lv_aload_n hx hb dX12_remembers_59 rfl (lv_at hl 0 rfl) ?_
        refine rx_getA E hw on kF_R_19_11 (by decide) dX12_remembers_60 ?_
        refine lv_sipush (v := 900) hx hb dX12_remembers_63 (by decide) ?_
        refine lv_aload_n hx hb dX12_remembers_66 rfl (lv_at hl 0 rfl) ?_
        refine rx_getI E hw on kF_R_207_11 (by decide) dX12_remembers_67 ?_
        refine lv_imul hx hb dX12_remembers_70 ?_
        refine lv_iload_n hx hb dX12_remembers_71 rfl (lv_at hl 1 rfl) ?_
        refine lv_iadd hx hb dX12_remembers_72 ?_
        refine lv_aload_n hx hb dX12_remembers_73 rfl (lv_at hl 0 rfl) ?_
        refine rx_getA E hw on kF_R_7_11 (by decide) dX12_remembers_74 ?_
        refine lv_iload_n hx hb dX12_remembers_77 rfl (lv_at hl 1 rfl) ?_
        refine rx_iald E hw on (by decide) dX12_remembers_78 (fun v3 => ?_)
        refine rx_iast E hw on (by decide) dX12_remembers_79 (fun r4 H locs hw => ?_)
        refine lv_iinc (v := x1 + 1) (lv' := [(1, .int (x1 + 1)), (0, .ref (g_r G))]) hx hb dX12_remembers_80 hl (k := 1) rfl rfl (by decide) rfl (fun ls hl => ?_)
        refine lv_goto (tgt := 52) hx hb dX12_remembers_83 (by decide) ?_
        exact ih (x1 + 1) r4 _ _ _ hw (lv_sub hl [1, 0] rfl)
  have w50 : ∀ (r : Rho) (H : Heap) (locs : List Loc) (ls : Array Slot), w_W G M r s H locs → lv_has ls 2 [(0, .ref (g_r G))] → W p l e rm_R_remembers s m args below meth c H locs 0 0 (PQ G below args s rm_R_remembers.cells rm_R_remembers.slots (fun z => (.inl none, M, z)) (f_R_remembers_50 N r)) (F0 m 50 ls []) := by
    intro r H locs ls hw hl
    unfold f_R_remembers_50
    refine lv_iconst (v := 0) hx hb dX12_remembers_50 (by decide) ?_
    refine lv_istore_n (lv' := [(1, .int 0), (0, .ref (g_r G))]) hx hb dX12_remembers_51 rfl hl (by decide) rfl (fun ls hl => ?_)
    exact w52  N 0 r _ _ _ hw (lv_sub hl [1, 0] rfl)
  have w11 : ∀ (n : Nat) (x1 : Int32) (r : Rho) (H : Heap) (locs : List Loc) (ls : Array Slot), w_W G M r s H locs → lv_has ls 2 [(0, .ref (g_r G)), (1, .int x1)] → W p l e rm_R_remembers s m args below meth c H locs 0 0 (PQ G below args s rm_R_remembers.cells rm_R_remembers.slots (fun z => (.inl none, M, z)) (f_R_remembers_11 N n x1 r)) (F0 m 11 ls []) := by
    intro n
    induction n with
    | zero => intros; exact W_none
    | succ n ih =>
      intro x1 r H locs ls hw hl
      rw [f_R_remembers_11]
      refine lv_iload_n hx hb dX12_remembers_11 rfl (lv_at hl 1 rfl) ?_
      refine lv_sipush (v := 9900) hx hb dX12_remembers_12 (by decide) ?_
      refine cx_icmp_ge (tgt := 40) E dX12_remembers_15 (by decide) (fun _ => ?_) (fun _ => ?_)
      · refine lv_aload_n hx hb dX12_remembers_40 rfl (lv_at hl 0 rfl) ?_
        refine lv_dup hx hb dX12_remembers_41 rfl ?_
        refine rx_getI E hw on kF_R_207_11 (by decide) dX12_remembers_42 ?_
        refine lv_iconst (v := 1) hx hb dX12_remembers_45 (by decide) ?_
        refine lv_isub hx hb dX12_remembers_46 ?_
        refine rx_putI E hw on kF_R_207_11 (by decide) kT_11_6 dX12_remembers_47 (fun H locs hw => ?_)
        exact w50  (r_set r 6 ((r.1 6) - 1)) _ _ _ hw (lv_sub hl [0] rfl)
      · refine lv_aload_n hx hb dX12_remembers_18 rfl (lv_at hl 0 rfl) ?_
        refine rx_getA E hw on kF_R_19_11 (by decide) dX12_remembers_19 ?_
        refine lv_iload_n hx hb dX12_remembers_22 rfl (lv_at hl 1 rfl) ?_
        refine lv_aload_n hx hb dX12_remembers_23 rfl (lv_at hl 0 rfl) ?_
        refine rx_getA E hw on kF_R_19_11 (by decide) dX12_remembers_24 ?_
        refine lv_iload_n hx hb dX12_remembers_27 rfl (lv_at hl 1 rfl) ?_
        refine lv_sipush (v := 900) hx hb dX12_remembers_28 (by decide) ?_
        refine lv_iadd hx hb dX12_remembers_31 ?_
        refine rx_iald E hw on (by decide) dX12_remembers_32 (fun v1 => ?_)
        refine rx_iast E hw on (by decide) dX12_remembers_33 (fun r2 H locs hw => ?_)
        refine lv_iinc (v := x1 + 1) (lv' := [(1, .int (x1 + 1)), (0, .ref (g_r G))]) hx hb dX12_remembers_34 hl (k := 1) rfl rfl (by decide) rfl (fun ls hl => ?_)
        refine lv_goto (tgt := 11) hx hb dX12_remembers_37 (by decide) ?_
        exact ih (x1 + 1) r2 _ _ _ hw (lv_sub hl [1, 0] rfl)
  unfold f_R_remembers
  refine lv_aload_n hx hb dX12_remembers_0 rfl (lv_at hl 0 rfl) ?_
  refine rx_getI E hw on kF_R_207_11 (by decide) dX12_remembers_1 ?_
  refine lv_bipush (v := 12) hx hb dX12_remembers_4 (by decide) ?_
  refine cx_icmp_ne (tgt := 50) E dX12_remembers_6 (by decide) (fun _ => ?_) (fun _ => ?_)
  · exact w50  r _ _ _ hw (lv_sub hl [0] rfl)
  · refine lv_iconst (v := 0) hx hb dX12_remembers_9 (by decide) ?_
    refine lv_istore_n (lv' := [(1, .int 0), (0, .ref (g_r G))]) hx hb dX12_remembers_10 rfl hl (by decide) rfl (fun ls hl => ?_)
    exact w11  N 0 r _ _ _ hw (lv_sub hl [1, 0] rfl)
set_option maxHeartbeats 4000000 in
set_option maxRecDepth 100000 in
theorem t_R_lesser (l : Launch) (hfl : l.stackTraces = false) (G : wG) (a0 : Int32) (a1 : Int32) (M : Mem) (r : Rho) : Ctr l yX12_lesser (wWs yX12_lesser cX12_lesser 2 (some .int)) rm_R_lesser rm_R_lesser.cells rm_R_lesser.slots G [.int a0, .int a1] M r ((f_R_lesser a0 a1).map (fun z => (.inl (some (.int z)), M, r))) := by
  refine Ctr.ofF (own := "CheekTownModel") (by decide +kernel) hfl rfl (Nat.le_of_ble_eq_true rfl) (fun p e s m args below meth c E hno hr hnm hw ls hl => ?_)
  obtain ⟨hx, hb, hts, hown, hml, hTT, -⟩ := id E
  have hl : lv_has ls 2 [(0, .int a0), (1, .int a1)] := hl
  obtain ⟨H, hH⟩ : ∃ H, H = s.heap := ⟨_, rfl⟩
  obtain ⟨locs, hlo⟩ : ∃ L : List Loc, L = [] := ⟨_, rfl⟩
  rw [← hH, ← hlo]
  rw [← hlo] at hw
  replace hw : w_W G M r s H locs := by rw [hH]; exact hw
  unfold f_R_lesser
  refine lv_iload_n hx hb dX12_lesser_0 rfl (lv_at hl 0 rfl) ?_
  refine lv_iload_n hx hb dX12_lesser_1 rfl (lv_at hl 1 rfl) ?_
  refine cx_icmp_ge (tgt := 9) E dX12_lesser_2 (by decide) (fun _ => ?_) (fun _ => ?_)
  · refine lv_iload_n hx hb dX12_lesser_9 rfl (lv_at hl 1 rfl) ?_
    exact p_iret E hw hr (Nat.le_of_ble_eq_true rfl) (Nat.le_of_ble_eq_true rfl) rfl dX12_lesser_10
  · refine lv_iload_n hx hb dX12_lesser_5 rfl (lv_at hl 0 rfl) ?_
    refine lv_goto (tgt := 10) hx hb dX12_lesser_6 (by decide) ?_
    exact p_iret E hw hr (Nat.le_of_ble_eq_true rfl) (Nat.le_of_ble_eq_true rfl) rfl dX12_lesser_10
set_option maxHeartbeats 4000000 in
set_option maxRecDepth 100000 in
theorem t_R_greater (l : Launch) (hfl : l.stackTraces = false) (G : wG) (a0 : Int32) (a1 : Int32) (M : Mem) (r : Rho) : Ctr l yX12_greater (wWs yX12_greater cX12_greater 2 (some .int)) rm_R_greater rm_R_greater.cells rm_R_greater.slots G [.int a0, .int a1] M r ((f_R_greater a0 a1).map (fun z => (.inl (some (.int z)), M, r))) := by
  refine Ctr.ofF (own := "CheekTownModel") (by decide +kernel) hfl rfl (Nat.le_of_ble_eq_true rfl) (fun p e s m args below meth c E hno hr hnm hw ls hl => ?_)
  obtain ⟨hx, hb, hts, hown, hml, hTT, -⟩ := id E
  have hl : lv_has ls 2 [(0, .int a0), (1, .int a1)] := hl
  obtain ⟨H, hH⟩ : ∃ H, H = s.heap := ⟨_, rfl⟩
  obtain ⟨locs, hlo⟩ : ∃ L : List Loc, L = [] := ⟨_, rfl⟩
  rw [← hH, ← hlo]
  rw [← hlo] at hw
  replace hw : w_W G M r s H locs := by rw [hH]; exact hw
  unfold f_R_greater
  refine lv_iload_n hx hb dX12_greater_0 rfl (lv_at hl 0 rfl) ?_
  refine lv_iload_n hx hb dX12_greater_1 rfl (lv_at hl 1 rfl) ?_
  refine cx_icmp_le (tgt := 9) E dX12_greater_2 (by decide) (fun _ => ?_) (fun _ => ?_)
  · refine lv_iload_n hx hb dX12_greater_9 rfl (lv_at hl 1 rfl) ?_
    exact p_iret E hw hr (Nat.le_of_ble_eq_true rfl) (Nat.le_of_ble_eq_true rfl) rfl dX12_greater_10
  · refine lv_iload_n hx hb dX12_greater_5 rfl (lv_at hl 0 rfl) ?_
    refine lv_goto (tgt := 10) hx hb dX12_greater_6 (by decide) ?_
    exact p_iret E hw hr (Nat.le_of_ble_eq_true rfl) (Nat.le_of_ble_eq_true rfl) rfl dX12_greater_10
set_option maxHeartbeats 4000000 in
set_option maxRecDepth 100000 in
theorem t_R_isBent (l : Launch) (hfl : l.stackTraces = false) (G : wG) (on : g_on G = true) (a0 : Int32) (M : Mem) (r : Rho) : Ctr l yX12_isBent (wWs yX12_isBent cX12_isBent 2 (some .boolean)) rm_R_isBent rm_R_isBent.cells rm_R_isBent.slots G [.ref (g_r G), .int a0] M r ((f_R_isBent a0 r).map (fun z => (.inl (some (.int z.1)), M, z.2))) := by
  refine Ctr.ofF (own := "CheekTownModel") (by decide +kernel) hfl rfl (Nat.le_of_ble_eq_true rfl) (fun p e s m args below meth c E hno hr hnm hw ls hl => ?_)
  obtain ⟨hx, hb, hts, hown, hml, hTT, -⟩ := id E
  have hl : lv_has ls 2 [(0, .ref (g_r G)), (1, .int a0)] := hl
  obtain ⟨H, hH⟩ : ∃ H, H = s.heap := ⟨_, rfl⟩
  obtain ⟨locs, hlo⟩ : ∃ L : List Loc, L = [] := ⟨_, rfl⟩
  rw [← hH, ← hlo]
  rw [← hlo] at hw
  replace hw : w_W G M r s H locs := by rw [hH]; exact hw
  unfold f_R_isBent
  refine lv_aload_n hx hb dX12_isBent_0 rfl (lv_at hl 0 rfl) ?_
  refine rx_getA E hw on kF_R_7_11 (by decide) dX12_isBent_1 ?_
  refine lv_bipush (v := 16) hx hb dX12_isBent_4 (by decide) ?_
  refine lv_ldcw hx hb hown (hts _ kC_R_283) dX12_isBent_6 ?_
  refine lv_aload_n hx hb dX12_isBent_9 rfl (lv_at hl 0 rfl) ?_
  refine rx_getA E hw on kF_R_7_11 (by decide) dX12_isBent_10 ?_
  refine lv_bipush (v := 16) hx hb dX12_isBent_13 (by decide) ?_
  refine rx_iald E hw on (by decide) dX12_isBent_15 (fun v1 => ?_)
  refine lv_imul hx hb dX12_isBent_16 ?_
  refine lv_sipush (v := 12345) hx hb dX12_isBent_17 (by decide) ?_
  refine lv_iadd hx hb dX12_isBent_20 ?_
  refine rx_iast E hw on (by decide) dX12_isBent_21 (fun r2 H locs hw => ?_)
  refine lv_aload_n hx hb dX12_isBent_22 rfl (lv_at hl 0 rfl) ?_
  refine rx_getA E hw on kF_R_7_11 (by decide) dX12_isBent_23 ?_
  refine lv_bipush (v := 16) hx hb dX12_isBent_26 (by decide) ?_
  refine rx_iald E hw on (by decide) dX12_isBent_28 (fun v3 => ?_)
  refine lv_bipush (v := 16) hx hb dX12_isBent_29 (by decide) ?_
  refine lv_iushr (v := ushr v3 16) hx hb dX12_isBent_31 rfl ?_
  refine lv_sipush (v := 32767) hx hb dX12_isBent_32 (by decide) ?_
  refine lv_iand hx hb dX12_isBent_35 ?_
  refine lv_bipush (v := 100) hx hb dX12_isBent_36 (by decide) ?_
  refine lv_irem hx hb dX12_isBent_38 (by decide) ?_
  refine lv_aload_n hx hb dX12_isBent_39 rfl (lv_at hl 0 rfl) ?_
  refine lv_iload_n hx hb dX12_isBent_40 rfl (lv_at hl 1 rfl) ?_
  refine lv_iconst (v := 3) hx hb dX12_isBent_41 (by decide) ?_
  refine W_bind fun z4 hz => ?_
  refine w_after (cells1 := 0) (slots1 := 0) (w_runV E kV_R_257 kc_X12_of (t_R_of l hfl G on a0 3 M r2 ((fun z => (.inl (some (.int z)), M, r2)) z4) (by rw [hz]; rfl)) ⟨Nat.le_of_ble_eq_true rfl, Nat.le_of_ble_eq_true rfl⟩ hw (w_recvR E hw on) rfl hl.1 rfl (Nat.le_of_ble_eq_true rfl) dX12_isBent_42 ⟨Nat.le_of_ble_eq_true rfl, Nat.le_of_ble_eq_true rfl⟩) hw rfl (Nat.le_of_ble_eq_true rfl) (Nat.le_of_ble_eq_true rfl) (fun H locs hw => ?_)
  refine W.eq (g2 := F0 m 45 ls [.int z4, .int (((ushr v3 16) &&& 32767) - ((ushr v3 16) &&& 32767) / 100 * 100)]) rfl ?_
  have hw : w_W G M r2 s H locs := hw
  refine cx_icmp_ge (tgt := 52) E dX12_isBent_45 (by decide) (fun _ => ?_) (fun _ => ?_)
  · refine lv_iconst (v := 0) hx hb dX12_isBent_52 (by decide) ?_
    exact p_zret E hw hr (by decide) (Nat.le_of_ble_eq_true rfl) (Nat.le_of_ble_eq_true rfl) rfl dX12_isBent_53
  · refine lv_iconst (v := 1) hx hb dX12_isBent_48 (by decide) ?_
    refine lv_goto (tgt := 53) hx hb dX12_isBent_49 (by decide) ?_
    exact p_zret E hw hr (by decide) (Nat.le_of_ble_eq_true rfl) (Nat.le_of_ble_eq_true rfl) rfl dX12_isBent_53
set_option maxHeartbeats 4000000 in
set_option maxRecDepth 100000 in
theorem t_R_sees (l : Launch) (hfl : l.stackTraces = false) (G : wG) (on : g_on G = true) (a0 : Int32) (a1 : Int32) (a2 : Int32) (M : Mem) (r : Rho) : Ctr l yX12_sees (wWs yX12_sees cX12_sees 4 none) rm_R_sees rm_R_sees.cells rm_R_sees.slots G [.ref (g_r G), .int a0, .int a1, .int a2] M r ((f_R_sees a0 a1 a2 r).map (fun z => (.inl none, M, z))) := by
  refine Ctr.ofF (own := "CheekTownModel") (by decide +kernel) hfl rfl (Nat.le_of_ble_eq_true rfl) (fun p e s m args below meth c E hno hr hnm hw ls hl => ?_)
  obtain ⟨hx, hb, hts, hown, hml, hTT, -⟩ := id E
  have hl : lv_has ls 4 [(0, .ref (g_r G)), (1, .int a0), (2, .int a1), (3, .int a2)] := hl
  obtain ⟨H, hH⟩ : ∃ H, H = s.heap := ⟨_, rfl⟩
  obtain ⟨locs, hlo⟩ : ∃ L : List Loc, L = [] := ⟨_, rfl⟩
  rw [← hH, ← hlo]
  rw [← hlo] at hw
  replace hw : w_W G M r s H locs := by rw [hH]; exact hw
  have w53 : ∀ (r : Rho) (H : Heap) (locs : List Loc) (ls : Array Slot), w_W G M r s H locs → lv_has ls 4 [(0, .ref (g_r G)), (1, .int a0), (3, .int a2)] → W p l e rm_R_sees s m args below meth c H locs 0 0 (PQ G below args s rm_R_sees.cells rm_R_sees.slots (fun z => (.inl none, M, z)) (f_R_sees_53 a0 a1 a2 r)) (F0 m 53 ls []) := by
    intro r H locs ls hw hl
    unfold f_R_sees_53
    refine lv_aload_n hx hb dX12_sees_53 rfl (lv_at hl 0 rfl) ?_
    refine lv_iload_n hx hb dX12_sees_54 rfl (lv_at hl 1 rfl) ?_
    refine lv_bipush (v := 7) hx hb dX12_sees_55 (by decide) ?_
    refine lv_aload_n hx hb dX12_sees_57 rfl (lv_at hl 0 rfl) ?_
    refine lv_iload_n hx hb dX12_sees_58 rfl (lv_at hl 1 rfl) ?_
    refine lv_bipush (v := 6) hx hb dX12_sees_59 (by decide) ?_
    refine W_bind fun z6 hz => ?_
    refine w_after (cells1 := 0) (slots1 := 0) (w_runV E kV_R_257 kc_X12_of (t_R_of l hfl G on a0 6 M r ((fun z => (.inl (some (.int z)), M, r)) z6) (by rw [hz]; rfl)) ⟨Nat.le_of_ble_eq_true rfl, Nat.le_of_ble_eq_true rfl⟩ hw (w_recvR E hw on) rfl hl.1 rfl (Nat.le_of_ble_eq_true rfl) dX12_sees_61 ⟨Nat.le_of_ble_eq_true rfl, Nat.le_of_ble_eq_true rfl⟩) hw rfl (Nat.le_of_ble_eq_true rfl) (Nat.le_of_ble_eq_true rfl) (fun H locs hw => ?_)
    refine W.eq (g2 := F0 m 64 ls [.int z6, .int 7, .int a0, .ref (g_r G)]) rfl ?_
    have hw : w_W G M r s H locs := hw
    refine W_bind fun z7 hz => ?_
    refine w_after (cells1 := 0) (slots1 := 0) (w_runV E kV_R_141 kc_X12_has (t_R_has l hfl G on a0 7 z6 M r ((fun z => (.inl none, M, z)) z7) (by rw [hz]; rfl)) ⟨Nat.le_of_ble_eq_true rfl, Nat.le_of_ble_eq_true rfl⟩ hw (w_recvR E hw on) rfl hl.1 rfl (Nat.le_of_ble_eq_true rfl) dX12_sees_64 ⟨Nat.le_of_ble_eq_true rfl, Nat.le_of_ble_eq_true rfl⟩) hw rfl (Nat.le_of_ble_eq_true rfl) (Nat.le_of_ble_eq_true rfl) (fun H locs hw => ?_)
    refine W.eq (g2 := F0 m 67 ls []) rfl ?_
    have hw : w_W G M z7 s H locs := hw
    refine lv_aload_n hx hb dX12_sees_67 rfl (lv_at hl 0 rfl) ?_
    refine lv_iload_n hx hb dX12_sees_68 rfl (lv_at hl 1 rfl) ?_
    refine lv_bipush (v := 6) hx hb dX12_sees_69 (by decide) ?_
    refine lv_iload_n hx hb dX12_sees_71 rfl (lv_at hl 2 rfl) ?_
    refine W_bind fun z8 hz => ?_
    refine w_after (cells1 := 0) (slots1 := 0) (w_runV E kV_R_141 kc_X12_has (t_R_has l hfl G on a0 6 a2 M z7 ((fun z => (.inl none, M, z)) z8) (by rw [hz]; rfl)) ⟨Nat.le_of_ble_eq_true rfl, Nat.le_of_ble_eq_true rfl⟩ hw (w_recvR E hw on) rfl hl.1 rfl (Nat.le_of_ble_eq_true rfl) dX12_sees_72 ⟨Nat.le_of_ble_eq_true rfl, Nat.le_of_ble_eq_true rfl⟩) hw rfl (Nat.le_of_ble_eq_true rfl) (Nat.le_of_ble_eq_true rfl) (fun H locs hw => ?_)
    refine W.eq (g2 := F0 m 75 ls []) rfl ?_
    have hw : w_W G M z8 s H locs := hw
    refine lv_aload_n hx hb dX12_sees_75 rfl (lv_at hl 0 rfl) ?_
    refine lv_iload_n hx hb dX12_sees_76 rfl (lv_at hl 1 rfl) ?_
    refine lv_iconst (v := 5) hx hb dX12_sees_77 (by decide) ?_
    refine lv_aload_n hx hb dX12_sees_78 rfl (lv_at hl 0 rfl) ?_
    refine lv_iload_n hx hb dX12_sees_79 rfl (lv_at hl 1 rfl) ?_
    refine lv_iconst (v := 5) hx hb dX12_sees_80 (by decide) ?_
    refine W_bind fun z9 hz => ?_
    refine w_after (cells1 := 0) (slots1 := 0) (w_runV E kV_R_257 kc_X12_of (t_R_of l hfl G on a0 5 M z8 ((fun z => (.inl (some (.int z)), M, z8)) z9) (by rw [hz]; rfl)) ⟨Nat.le_of_ble_eq_true rfl, Nat.le_of_ble_eq_true rfl⟩ hw (w_recvR E hw on) rfl hl.1 rfl (Nat.le_of_ble_eq_true rfl) dX12_sees_81 ⟨Nat.le_of_ble_eq_true rfl, Nat.le_of_ble_eq_true rfl⟩) hw rfl (Nat.le_of_ble_eq_true rfl) (Nat.le_of_ble_eq_true rfl) (fun H locs hw => ?_)
    refine W.eq (g2 := F0 m 84 ls [.int z9, .int 5, .int a0, .ref (g_r G)]) rfl ?_
    have hw : w_W G M z8 s H locs := hw
    refine lv_iconst (v := 1) hx hb dX12_sees_84 (by decide) ?_
    refine lv_iadd hx hb dX12_sees_85 ?_
    refine W_bind fun z10 hz => ?_
    refine w_after (cells1 := 0) (slots1 := 0) (w_runV E kV_R_141 kc_X12_has (t_R_has l hfl G on a0 5 (z9 + 1) M z8 ((fun z => (.inl none, M, z)) z10) (by rw [hz]; rfl)) ⟨Nat.le_of_ble_eq_true rfl, Nat.le_of_ble_eq_true rfl⟩ hw (w_recvR E hw on) rfl hl.1 rfl (Nat.le_of_ble_eq_true rfl) dX12_sees_86 ⟨Nat.le_of_ble_eq_true rfl, Nat.le_of_ble_eq_true rfl⟩) hw rfl (Nat.le_of_ble_eq_true rfl) (Nat.le_of_ble_eq_true rfl) (fun H locs hw => ?_)
    refine W.eq (g2 := F0 m 89 ls []) rfl ?_
    have hw : w_W G M z10 s H locs := hw
    exact p_vret E hw hr (Nat.le_of_ble_eq_true rfl) (Nat.le_of_ble_eq_true rfl) rfl dX12_sees_89
  unfold f_R_sees
  refine lv_aload_n hx hb dX12_sees_0 rfl (lv_at hl 0 rfl) ?_
  refine lv_iload_n hx hb dX12_sees_1 rfl (lv_at hl 1 rfl) ?_
  refine lv_iload_n hx hb dX12_sees_2 rfl (lv_at hl 2 rfl) ?_
  refine lv_aload_n hx hb dX12_sees_3 rfl (lv_at hl 0 rfl) ?_
  refine rx_getA E hw on kF_R_7_11 (by decide) dX12_sees_4 ?_
  refine lv_sipush (v := 172) hx hb dX12_sees_7 (by decide) ?_
  refine lv_bipush (v := 10) hx hb dX12_sees_10 (by decide) ?_
  refine lv_iload_n hx hb dX12_sees_12 rfl (lv_at hl 1 rfl) ?_
  refine lv_imul hx hb dX12_sees_13 ?_
  refine lv_iadd hx hb dX12_sees_14 ?_
  refine lv_iload_n hx hb dX12_sees_15 rfl (lv_at hl 2 rfl) ?_
  refine lv_iadd hx hb dX12_sees_16 ?_
  refine rx_iald E hw on (by decide) dX12_sees_17 (fun v1 => ?_)
  refine lv_iconst (v := 1) hx hb dX12_sees_18 (by decide) ?_
  refine lv_iadd hx hb dX12_sees_19 ?_
  refine lv_iload_n hx hb dX12_sees_20 rfl (lv_at hl 3 rfl) ?_
  refine W_bind fun z2 hz => ?_
  refine w_after (cells1 := 0) (slots1 := 0) (w_runV E kV_R_144 kc_X12_meets (t_R_meets l hfl G on a0 a1 (v1 + 1) a2 M r ((fun z => (.inl none, M, z)) z2) (by rw [hz]; rfl)) ⟨Nat.le_of_ble_eq_true rfl, Nat.le_of_ble_eq_true rfl⟩ hw (w_recvR E hw on) rfl hl.1 rfl (Nat.le_of_ble_eq_true rfl) dX12_sees_21 ⟨Nat.le_of_ble_eq_true rfl, Nat.le_of_ble_eq_true rfl⟩) hw rfl (Nat.le_of_ble_eq_true rfl) (Nat.le_of_ble_eq_true rfl) (fun H locs hw => ?_)
  refine W.eq (g2 := F0 m 24 ls []) rfl ?_
  have hw : w_W G M z2 s H locs := hw
  refine lv_aload_n hx hb dX12_sees_24 rfl (lv_at hl 0 rfl) ?_
  refine lv_iload_n hx hb dX12_sees_25 rfl (lv_at hl 1 rfl) ?_
  refine lv_bipush (v := 6) hx hb dX12_sees_26 (by decide) ?_
  refine W_bind fun z3 hz => ?_
  refine w_after (cells1 := 0) (slots1 := 0) (w_runV E kV_R_257 kc_X12_of (t_R_of l hfl G on a0 6 M z2 ((fun z => (.inl (some (.int z)), M, z2)) z3) (by rw [hz]; rfl)) ⟨Nat.le_of_ble_eq_true rfl, Nat.le_of_ble_eq_true rfl⟩ hw (w_recvR E hw on) rfl hl.1 rfl (Nat.le_of_ble_eq_true rfl) dX12_sees_28 ⟨Nat.le_of_ble_eq_true rfl, Nat.le_of_ble_eq_true rfl⟩) hw rfl (Nat.le_of_ble_eq_true rfl) (Nat.le_of_ble_eq_true rfl) (fun H locs hw => ?_)
  refine W.eq (g2 := F0 m 31 ls [.int z3]) rfl ?_
  have hw : w_W G M z2 s H locs := hw
  refine lv_iload_n hx hb dX12_sees_31 rfl (lv_at hl 3 rfl) ?_
  refine cx_icmp_ne (tgt := 53) E dX12_sees_32 (by decide) (fun _ => ?_) (fun _ => ?_)
  · exact w53  z2 _ _ _ hw (lv_sub hl [0, 1, 3] rfl)
  · refine lv_aload_n hx hb dX12_sees_35 rfl (lv_at hl 0 rfl) ?_
    refine lv_iload_n hx hb dX12_sees_36 rfl (lv_at hl 1 rfl) ?_
    refine lv_bipush (v := 7) hx hb dX12_sees_37 (by decide) ?_
    refine W_bind fun z4 hz => ?_
    refine w_after (cells1 := 0) (slots1 := 0) (w_runV E kV_R_257 kc_X12_of (t_R_of l hfl G on a0 7 M z2 ((fun z => (.inl (some (.int z)), M, z2)) z4) (by rw [hz]; rfl)) ⟨Nat.le_of_ble_eq_true rfl, Nat.le_of_ble_eq_true rfl⟩ hw (w_recvR E hw on) rfl hl.1 rfl (Nat.le_of_ble_eq_true rfl) dX12_sees_39 ⟨Nat.le_of_ble_eq_true rfl, Nat.le_of_ble_eq_true rfl⟩) hw rfl (Nat.le_of_ble_eq_true rfl) (Nat.le_of_ble_eq_true rfl) (fun H locs hw => ?_)
    refine W.eq (g2 := F0 m 42 ls [.int z4]) rfl ?_
    have hw : w_W G M z2 s H locs := hw
    refine lv_iload_n hx hb dX12_sees_42 rfl (lv_at hl 3 rfl) ?_
    refine cx_icmp_ne (tgt := 53) E dX12_sees_43 (by decide) (fun _ => ?_) (fun _ => ?_)
    · exact w53  z2 _ _ _ hw (lv_sub hl [0, 1, 3] rfl)
    · refine lv_aload_n hx hb dX12_sees_46 rfl (lv_at hl 0 rfl) ?_
      refine lv_iload_n hx hb dX12_sees_47 rfl (lv_at hl 1 rfl) ?_
      refine lv_iconst (v := 1) hx hb dX12_sees_48 (by decide) ?_
      refine lv_iload_n hx hb dX12_sees_49 rfl (lv_at hl 3 rfl) ?_
      refine W_bind fun z5 hz => ?_
      refine w_after (cells1 := 0) (slots1 := 0) (w_runV E kV_R_141 kc_X12_has (t_R_has l hfl G on a0 1 a2 M z2 ((fun z => (.inl none, M, z)) z5) (by rw [hz]; rfl)) ⟨Nat.le_of_ble_eq_true rfl, Nat.le_of_ble_eq_true rfl⟩ hw (w_recvR E hw on) rfl hl.1 rfl (Nat.le_of_ble_eq_true rfl) dX12_sees_50 ⟨Nat.le_of_ble_eq_true rfl, Nat.le_of_ble_eq_true rfl⟩) hw rfl (Nat.le_of_ble_eq_true rfl) (Nat.le_of_ble_eq_true rfl) (fun H locs hw => ?_)
      refine W.eq (g2 := F0 m 53 ls []) rfl ?_
      have hw : w_W G M z5 s H locs := hw
      exact w53  z5 _ _ _ hw (lv_sub hl [0, 1, 3] rfl)
set_option maxHeartbeats 4000000 in
set_option maxRecDepth 100000 in
theorem t_R_meeting (l : Launch) (hfl : l.stackTraces = false) (G : wG) (on : g_on G = true) (N : Nat) (a0 : Int32) (a1 : Int32) (M : Mem) (r : Rho) : Ctr l yX12_meeting (wWs yX12_meeting cX12_meeting 13 (some .int)) rm_R_meeting rm_R_meeting.cells rm_R_meeting.slots G [.ref (g_r G), .int a0, .int a1] M r ((f_R_meeting N a0 a1 r).map (fun z => (.inl (some (.int z.1)), M, z.2))) := by
  refine Ctr.ofF (own := "CheekTownModel") (by decide +kernel) hfl rfl (Nat.le_of_ble_eq_true rfl) (fun p e s m args below meth c E hno hr hnm hw ls hl => ?_)
  obtain ⟨hx, hb, hts, hown, hml, hTT, -⟩ := id E
  have hl : lv_has ls 13 [(0, .ref (g_r G)), (1, .int a0), (2, .int a1)] := hl
  obtain ⟨H, hH⟩ : ∃ H, H = s.heap := ⟨_, rfl⟩
  obtain ⟨locs, hlo⟩ : ∃ L : List Loc, L = [] := ⟨_, rfl⟩
  rw [← hH, ← hlo]
  rw [← hlo] at hw
  replace hw : w_W G M r s H locs := by rw [hH]; exact hw
  have w301 : ∀ (n : Nat) (x3 : Int32) (x4 : Int32) (x5 : Int32) (x6 : Int32) (x7 : Int32) (x10 : Int32) (x11 : Int32) (x12 : Int32) (r : Rho) (H : Heap) (locs : List Loc) (ls : Array Slot), w_W G M r s H locs → lv_has ls 13 [(0, .ref (g_r G)), (3, .int x3), (4, .int x4), (5, .int x5), (6, .int x6), (7, .int x7), (10, .int x10), (11, .int x11), (12, .int x12)] → W p l e rm_R_meeting s m args below meth c H locs 0 0 (PQ G below args s rm_R_meeting.cells rm_R_meeting.slots (fun z => (.inl (some (.int z.1)), M, z.2)) (f_R_meeting_301 N a0 a1 n x3 x4 x5 x6 x7 x10 x11 x12 r)) (F0 m 301 ls []) := by
    intro n
    induction n with
    | zero => intros; exact W_none
    | succ n ih =>
      intro x3 x4 x5 x6 x7 x10 x11 x12 r H locs ls hw hl
      rw [f_R_meeting_301]
      refine lv_iload hx hb dX12_meeting_301 (lv_at hl 8 rfl) ?_
      refine lv_bipush (v := 8) hx hb dX12_meeting_303 (by decide) ?_
      refine cx_icmp_lt (tgt := 339) E dX12_meeting_305 (by decide) (fun _ => ?_) (fun _ => ?_)
      · refine lv_aload_n hx hb dX12_meeting_339 rfl (lv_at hl 0 rfl) ?_
        refine rx_getA E hw on kF_R_7_11 (by decide) dX12_meeting_340 ?_
        refine lv_sipush (v := 420) hx hb dX12_meeting_343 (by decide) ?_
        refine lv_aload_n hx hb dX12_meeting_346 rfl (lv_at hl 0 rfl) ?_
        refine rx_getA E hw on kF_R_7_11 (by decide) dX12_meeting_347 ?_
        refine lv_bipush (v := 7) hx hb dX12_meeting_350 (by decide) ?_
        refine rx_iald E hw on (by decide) dX12_meeting_352 (fun v27 => ?_)
        refine rx_iast E hw on (by decide) dX12_meeting_353 (fun r28 H locs hw => ?_)
        refine lv_aload_n hx hb dX12_meeting_354 rfl (lv_at hl 0 rfl) ?_
        refine rx_getA E hw on kF_R_7_11 (by decide) dX12_meeting_355 ?_
        refine lv_sipush (v := 421) hx hb dX12_meeting_358 (by decide) ?_
        refine lv_iload_n hx hb dX12_meeting_361 rfl (lv_at hl 1 rfl) ?_
        refine rx_iast E hw on (by decide) dX12_meeting_362 (fun r29 H locs hw => ?_)
        refine lv_aload_n hx hb dX12_meeting_363 rfl (lv_at hl 0 rfl) ?_
        refine rx_getA E hw on kF_R_7_11 (by decide) dX12_meeting_364 ?_
        refine lv_sipush (v := 422) hx hb dX12_meeting_367 (by decide) ?_
        refine lv_iload hx hb dX12_meeting_370 (lv_at hl 2 rfl) ?_
        refine rx_iast E hw on (by decide) dX12_meeting_372 (fun r30 H locs hw => ?_)
        refine lv_aload_n hx hb dX12_meeting_373 rfl (lv_at hl 0 rfl) ?_
        refine rx_getA E hw on kF_R_7_11 (by decide) dX12_meeting_374 ?_
        refine lv_sipush (v := 423) hx hb dX12_meeting_377 (by decide) ?_
        refine lv_iload hx hb dX12_meeting_380 (lv_at hl 3 rfl) ?_
        refine rx_iast E hw on (by decide) dX12_meeting_382 (fun r31 H locs hw => ?_)
        refine lv_aload_n hx hb dX12_meeting_383 rfl (lv_at hl 0 rfl) ?_
        refine rx_getA E hw on kF_R_7_11 (by decide) dX12_meeting_384 ?_
        refine lv_sipush (v := 424) hx hb dX12_meeting_387 (by decide) ?_
        refine lv_iload hx hb dX12_meeting_390 (lv_at hl 4 rfl) ?_
        refine rx_iast E hw on (by decide) dX12_meeting_392 (fun r32 H locs hw => ?_)
        refine lv_aload_n hx hb dX12_meeting_393 rfl (lv_at hl 0 rfl) ?_
        refine rx_getA E hw on kF_R_7_11 (by decide) dX12_meeting_394 ?_
        refine lv_sipush (v := 425) hx hb dX12_meeting_397 (by decide) ?_
        refine lv_iload hx hb dX12_meeting_400 (lv_at hl 6 rfl) ?_
        refine rx_iast E hw on (by decide) dX12_meeting_402 (fun r33 H locs hw => ?_)
        refine lv_aload_n hx hb dX12_meeting_403 rfl (lv_at hl 0 rfl) ?_
        refine rx_getA E hw on kF_R_7_11 (by decide) dX12_meeting_404 ?_
        refine lv_sipush (v := 426) hx hb dX12_meeting_407 (by decide) ?_
        refine lv_iload hx hb dX12_meeting_410 (lv_at hl 7 rfl) ?_
        refine rx_iast E hw on (by decide) dX12_meeting_412 (fun r34 H locs hw => ?_)
        refine lv_aload_n hx hb dX12_meeting_413 rfl (lv_at hl 0 rfl) ?_
        refine rx_getA E hw on kF_R_7_11 (by decide) dX12_meeting_414 ?_
        refine lv_sipush (v := 427) hx hb dX12_meeting_417 (by decide) ?_
        refine lv_iload hx hb dX12_meeting_420 (lv_at hl 5 rfl) ?_
        refine rx_iast E hw on (by decide) dX12_meeting_422 (fun r35 H locs hw => ?_)
        refine lv_aload_n hx hb dX12_meeting_423 rfl (lv_at hl 0 rfl) ?_
        refine rx_getA E hw on kF_R_7_11 (by decide) dX12_meeting_424 ?_
        refine lv_bipush (v := 12) hx hb dX12_meeting_427 (by decide) ?_
        refine lv_bipush (v := 60) hx hb dX12_meeting_429 (by decide) ?_
        refine lv_aload_n hx hb dX12_meeting_431 rfl (lv_at hl 0 rfl) ?_
        refine rx_getA E hw on kF_R_7_11 (by decide) dX12_meeting_432 ?_
        refine lv_bipush (v := 12) hx hb dX12_meeting_435 (by decide) ?_
        refine rx_iald E hw on (by decide) dX12_meeting_437 (fun v36 => ?_)
        refine lv_iconst (v := 1) hx hb dX12_meeting_438 (by decide) ?_
        refine lv_iadd hx hb dX12_meeting_439 ?_
        refine W_bind fun z37 hz => ?_
        refine w_after (cells1 := 0) (slots1 := 0) (w_runS E kS_R_284 kc_X12_lesser (t_R_lesser l hfl G 60 (v36 + 1) M r35 ((fun z => (.inl (some (.int z)), M, r35)) z37) (by rw [hz]; rfl)) ⟨Nat.le_of_ble_eq_true rfl, Nat.le_of_ble_eq_true rfl⟩ hw rfl hl.1 rfl (Nat.le_of_ble_eq_true rfl) dX12_meeting_440 ⟨Nat.le_of_ble_eq_true rfl, Nat.le_of_ble_eq_true rfl⟩) hw rfl (Nat.le_of_ble_eq_true rfl) (Nat.le_of_ble_eq_true rfl) (fun H locs hw => ?_)
        refine W.eq (g2 := F0 m 443 ls [.int z37, .int 12, .ref (g_r G + r_off 1)]) rfl ?_
        have hw : w_W G M r35 s H locs := hw
        refine rx_iast E hw on (by decide) dX12_meeting_443 (fun r38 H locs hw => ?_)
        refine lv_iload hx hb dX12_meeting_444 (lv_at hl 5 rfl) ?_
        exact p_iret E hw hr (Nat.le_of_ble_eq_true rfl) (Nat.le_of_ble_eq_true rfl) rfl dX12_meeting_446
      · refine lv_aload_n hx hb dX12_meeting_308 rfl (lv_at hl 0 rfl) ?_
        refine rx_getA E hw on kF_R_7_11 (by decide) dX12_meeting_309 ?_
        refine lv_sipush (v := 420) hx hb dX12_meeting_312 (by decide) ?_
        refine lv_iload hx hb dX12_meeting_315 (lv_at hl 8 rfl) ?_
        refine lv_iadd hx hb dX12_meeting_317 ?_
        refine lv_aload_n hx hb dX12_meeting_318 rfl (lv_at hl 0 rfl) ?_
        refine rx_getA E hw on kF_R_7_11 (by decide) dX12_meeting_319 ?_
        refine lv_sipush (v := 420) hx hb dX12_meeting_322 (by decide) ?_
        refine lv_iload hx hb dX12_meeting_325 (lv_at hl 8 rfl) ?_
        refine lv_iadd hx hb dX12_meeting_327 ?_
        refine lv_bipush (v := 8) hx hb dX12_meeting_328 (by decide) ?_
        refine lv_isub hx hb dX12_meeting_330 ?_
        refine rx_iald E hw on (by decide) dX12_meeting_331 (fun v39 => ?_)
        refine rx_iast E hw on (by decide) dX12_meeting_332 (fun r40 H locs hw => ?_)
        refine lv_iinc (v := x12 + (-1)) (lv' := [(12, .int (x12 + (-1))), (0, .ref (g_r G)), (3, .int x3), (4, .int x4), (5, .int x5), (6, .int x6), (7, .int x7), (10, .int x10), (11, .int x11)]) hx hb dX12_meeting_333 hl (k := 8) rfl rfl (by decide) rfl (fun ls hl => ?_)
        refine lv_goto (tgt := 301) hx hb dX12_meeting_336 (by decide) ?_
        exact ih x3 x4 x5 x6 x7 x10 x11 (x12 + (-1)) r40 _ _ _ hw (lv_sub hl [1, 2, 3, 4, 5, 6, 7, 8, 0] rfl)
  have w271 : ∀ (x3 : Int32) (x4 : Int32) (x5 : Int32) (x6 : Int32) (x7 : Int32) (x10 : Int32) (x11 : Int32) (y1 : Int32) (y2 : Int32) (y3 : Int32) (r : Rho) (H : Heap) (locs : List Loc) (ls : Array Slot), w_W G M r s H locs → lv_has ls 13 [(0, .ref (g_r G)), (3, .int x3), (4, .int x4), (5, .int x5), (6, .int x6), (7, .int x7), (10, .int x10), (11, .int x11)] → W p l e rm_R_meeting s m args below meth c H locs 0 0 (PQ G below args s rm_R_meeting.cells rm_R_meeting.slots (fun z => (.inl (some (.int z.1)), M, z.2)) (f_R_meeting_271 N a0 a1 x3 x4 x5 x6 x7 x10 x11 y1 y2 y3 r)) (F0 m 271 ls [.int y3, .int y2, .int y1, .ref (g_r G + r_off 1)]) := by
    intro x3 x4 x5 x6 x7 x10 x11 y1 y2 y3 r H locs ls hw hl
    unfold f_R_meeting_271
    refine lv_iadd hx hb dX12_meeting_271 ?_
    refine rx_iast E hw on (by decide) dX12_meeting_272 (fun r21 H locs hw => ?_)
    refine lv_aload_n hx hb dX12_meeting_273 rfl (lv_at hl 0 rfl) ?_
    refine rx_getA E hw on kF_R_7_11 (by decide) dX12_meeting_274 ?_
    refine lv_bipush (v := 11) hx hb dX12_meeting_277 (by decide) ?_
    refine lv_dup2_11 hx hb dX12_meeting_279 rfl rfl ?_
    refine rx_iald E hw on (by decide) dX12_meeting_280 (fun v22 => ?_)
    refine lv_iload hx hb dX12_meeting_281 (lv_at hl 6 rfl) ?_
    refine W_bind fun z23 hz => ?_
    refine w_after (cells1 := 0) (slots1 := 0) (w_runS E kS_R_70 kc_X12_countOf (t_R_countOf l hfl G x10 M r21 ((fun z => (.inl (some (.int z)), M, r21)) z23) (by rw [hz]; rfl)) ⟨Nat.le_of_ble_eq_true rfl, Nat.le_of_ble_eq_true rfl⟩ hw rfl hl.1 rfl (Nat.le_of_ble_eq_true rfl) dX12_meeting_283 ⟨Nat.le_of_ble_eq_true rfl, Nat.le_of_ble_eq_true rfl⟩) hw rfl (Nat.le_of_ble_eq_true rfl) (Nat.le_of_ble_eq_true rfl) (fun H locs hw => ?_)
    refine W.eq (g2 := F0 m 286 ls [.int z23, .int v22, .int 11, .ref (g_r G + r_off 1)]) rfl ?_
    have hw : w_W G M r21 s H locs := hw
    refine lv_iload hx hb dX12_meeting_286 (lv_at hl 7 rfl) ?_
    refine W_bind fun z24 hz => ?_
    refine w_after (cells1 := 0) (slots1 := 0) (w_runS E kS_R_70 kc_X12_countOf (t_R_countOf l hfl G x11 M r21 ((fun z => (.inl (some (.int z)), M, r21)) z24) (by rw [hz]; rfl)) ⟨Nat.le_of_ble_eq_true rfl, Nat.le_of_ble_eq_true rfl⟩ hw rfl hl.1 rfl (Nat.le_of_ble_eq_true rfl) dX12_meeting_288 ⟨Nat.le_of_ble_eq_true rfl, Nat.le_of_ble_eq_true rfl⟩) hw rfl (Nat.le_of_ble_eq_true rfl) (Nat.le_of_ble_eq_true rfl) (fun H locs hw => ?_)
    refine W.eq (g2 := F0 m 291 ls [.int z24, .int z23, .int v22, .int 11, .ref (g_r G + r_off 1)]) rfl ?_
    have hw : w_W G M r21 s H locs := hw
    refine W_bind fun z25 hz => ?_
    refine w_after (cells1 := 0) (slots1 := 0) (w_runS E kS_R_287 kc_X12_greater (t_R_greater l hfl G z23 z24 M r21 ((fun z => (.inl (some (.int z)), M, r21)) z25) (by rw [hz]; rfl)) ⟨Nat.le_of_ble_eq_true rfl, Nat.le_of_ble_eq_true rfl⟩ hw rfl hl.1 rfl (Nat.le_of_ble_eq_true rfl) dX12_meeting_291 ⟨Nat.le_of_ble_eq_true rfl, Nat.le_of_ble_eq_true rfl⟩) hw rfl (Nat.le_of_ble_eq_true rfl) (Nat.le_of_ble_eq_true rfl) (fun H locs hw => ?_)
    refine W.eq (g2 := F0 m 294 ls [.int z25, .int v22, .int 11, .ref (g_r G + r_off 1)]) rfl ?_
    have hw : w_W G M r21 s H locs := hw
    refine lv_iadd hx hb dX12_meeting_294 ?_
    refine rx_iast E hw on (by decide) dX12_meeting_295 (fun r26 H locs hw => ?_)
    refine lv_sipush (v := 479) hx hb dX12_meeting_296 (by decide) ?_
    refine lv_istore (lv' := [(12, .int 479), (0, .ref (g_r G)), (3, .int x3), (4, .int x4), (5, .int x5), (6, .int x6), (7, .int x7), (10, .int x10), (11, .int x11)]) hx hb dX12_meeting_299 hl (by decide) rfl (fun ls hl => ?_)
    exact w301  N x3 x4 x5 x6 x7 x10 x11 479 r26 _ _ _ hw (lv_sub hl [1, 2, 3, 4, 5, 6, 7, 8, 0] rfl)
  have w229 : ∀ (x3 : Int32) (x4 : Int32) (x5 : Int32) (x6 : Int32) (x7 : Int32) (x9 : Int32) (x10 : Int32) (x11 : Int32) (r : Rho) (H : Heap) (locs : List Loc) (ls : Array Slot), w_W G M r s H locs → lv_has ls 13 [(0, .ref (g_r G)), (3, .int x3), (4, .int x4), (5, .int x5), (6, .int x6), (7, .int x7), (9, .int x9), (10, .int x10), (11, .int x11)] → W p l e rm_R_meeting s m args below meth c H locs 0 0 (PQ G below args s rm_R_meeting.cells rm_R_meeting.slots (fun z => (.inl (some (.int z.1)), M, z.2)) (f_R_meeting_229 N a0 a1 x3 x4 x5 x6 x7 x9 x10 x11 r)) (F0 m 229 ls []) := by
    intro x3 x4 x5 x6 x7 x9 x10 x11 r H locs ls hw hl
    unfold f_R_meeting_229
    refine lv_aload_n hx hb dX12_meeting_229 rfl (lv_at hl 0 rfl) ?_
    refine rx_getA E hw on kF_R_7_11 (by decide) dX12_meeting_230 ?_
    refine lv_bipush (v := 8) hx hb dX12_meeting_233 (by decide) ?_
    refine lv_dup2_11 hx hb dX12_meeting_235 rfl rfl ?_
    refine rx_iald E hw on (by decide) dX12_meeting_236 (fun v16 => ?_)
    refine lv_iconst (v := 1) hx hb dX12_meeting_237 (by decide) ?_
    refine lv_iadd hx hb dX12_meeting_238 ?_
    refine rx_iast E hw on (by decide) dX12_meeting_239 (fun r17 H locs hw => ?_)
    refine lv_aload_n hx hb dX12_meeting_240 rfl (lv_at hl 0 rfl) ?_
    refine rx_getA E hw on kF_R_7_11 (by decide) dX12_meeting_241 ?_
    refine lv_bipush (v := 9) hx hb dX12_meeting_244 (by decide) ?_
    refine lv_dup2_11 hx hb dX12_meeting_246 rfl rfl ?_
    refine rx_iald E hw on (by decide) dX12_meeting_247 (fun v18 => ?_)
    refine lv_iload hx hb dX12_meeting_248 (lv_at hl 5 rfl) ?_
    refine lv_iadd hx hb dX12_meeting_250 ?_
    refine rx_iast E hw on (by decide) dX12_meeting_251 (fun r19 H locs hw => ?_)
    refine lv_aload_n hx hb dX12_meeting_252 rfl (lv_at hl 0 rfl) ?_
    refine rx_getA E hw on kF_R_7_11 (by decide) dX12_meeting_253 ?_
    refine lv_bipush (v := 10) hx hb dX12_meeting_256 (by decide) ?_
    refine lv_dup2_11 hx hb dX12_meeting_258 rfl rfl ?_
    refine rx_iald E hw on (by decide) dX12_meeting_259 (fun v20 => ?_)
    refine lv_iload hx hb dX12_meeting_260 (lv_at hl 6 rfl) ?_
    refine lv_iconst (v := (-1)) hx hb dX12_meeting_262 (by decide) ?_
    refine cx_icmp_ne (tgt := 270) E dX12_meeting_263 (by decide) (fun _ => ?_) (fun _ => ?_)
    · refine lv_iconst (v := 1) hx hb dX12_meeting_270 (by decide) ?_
      exact w271  x3 x4 x5 x6 x7 x10 x11 10 v20 1 r19 _ _ _ hw (lv_sub hl [0, 1, 2, 3, 4, 5, 7, 8] rfl)
    · refine lv_iconst (v := 0) hx hb dX12_meeting_266 (by decide) ?_
      refine lv_goto (tgt := 271) hx hb dX12_meeting_267 (by decide) ?_
      exact w271  x3 x4 x5 x6 x7 x10 x11 10 v20 0 r19 _ _ _ hw (lv_sub hl [0, 1, 2, 3, 4, 5, 7, 8] rfl)
  have w163 : ∀ (x3 : Int32) (x4 : Int32) (x5 : Int32) (x6 : Int32) (x9 : Int32) (x10 : Int32) (x11 : Int32) (y0 : Int32) (r : Rho) (H : Heap) (locs : List Loc) (ls : Array Slot), w_W G M r s H locs → lv_has ls 13 [(0, .ref (g_r G)), (3, .int x3), (4, .int x4), (5, .int x5), (6, .int x6), (9, .int x9), (10, .int x10), (11, .int x11)] → W p l e rm_R_meeting s m args below meth c H locs 0 0 (PQ G below args s rm_R_meeting.cells rm_R_meeting.slots (fun z => (.inl (some (.int z.1)), M, z.2)) (f_R_meeting_163 N a0 a1 x3 x4 x5 x6 x9 x10 x11 y0 r)) (F0 m 163 ls [.int y0]) := by
    intro x3 x4 x5 x6 x9 x10 x11 y0 r H locs ls hw hl
    unfold f_R_meeting_163
    refine lv_istore (lv' := [(7, .int y0), (0, .ref (g_r G)), (3, .int x3), (4, .int x4), (5, .int x5), (6, .int x6), (9, .int x9), (10, .int x10), (11, .int x11)]) hx hb dX12_meeting_163 hl (by decide) rfl (fun ls hl => ?_)
    refine lv_aload_n hx hb dX12_meeting_165 rfl (lv_at hl 1 rfl) ?_
    refine lv_iload_n hx hb dX12_meeting_166 rfl (lv_at hl 2 rfl) ?_
    refine lv_iload hx hb dX12_meeting_167 (lv_at hl 3 rfl) ?_
    refine lv_iload hx hb dX12_meeting_169 (lv_at hl 8 rfl) ?_
    refine W_bind fun z10 hz => ?_
    refine w_after (cells1 := 0) (slots1 := 0) (w_runV E kV_R_293 kc_X12_sees (t_R_sees l hfl G on x3 x4 x11 M r ((fun z => (.inl none, M, z)) z10) (by rw [hz]; rfl)) ⟨Nat.le_of_ble_eq_true rfl, Nat.le_of_ble_eq_true rfl⟩ hw (w_recvR E hw on) rfl hl.1 rfl (Nat.le_of_ble_eq_true rfl) dX12_meeting_171 ⟨Nat.le_of_ble_eq_true rfl, Nat.le_of_ble_eq_true rfl⟩) hw rfl (Nat.le_of_ble_eq_true rfl) (Nat.le_of_ble_eq_true rfl) (fun H locs hw => ?_)
    refine W.eq (g2 := F0 m 174 ls []) rfl ?_
    have hw : w_W G M z10 s H locs := hw
    refine lv_aload_n hx hb dX12_meeting_174 rfl (lv_at hl 1 rfl) ?_
    refine lv_iload hx hb dX12_meeting_175 (lv_at hl 3 rfl) ?_
    refine lv_iload_n hx hb dX12_meeting_177 rfl (lv_at hl 2 rfl) ?_
    refine lv_iload hx hb dX12_meeting_178 (lv_at hl 7 rfl) ?_
    refine W_bind fun z11 hz => ?_
    refine w_after (cells1 := 0) (slots1 := 0) (w_runV E kV_R_293 kc_X12_sees (t_R_sees l hfl G on x4 x3 x10 M z10 ((fun z => (.inl none, M, z)) z11) (by rw [hz]; rfl)) ⟨Nat.le_of_ble_eq_true rfl, Nat.le_of_ble_eq_true rfl⟩ hw (w_recvR E hw on) rfl hl.1 rfl (Nat.le_of_ble_eq_true rfl) dX12_meeting_180 ⟨Nat.le_of_ble_eq_true rfl, Nat.le_of_ble_eq_true rfl⟩) hw rfl (Nat.le_of_ble_eq_true rfl) (Nat.le_of_ble_eq_true rfl) (fun H locs hw => ?_)
    refine W.eq (g2 := F0 m 183 ls []) rfl ?_
    have hw : w_W G M z11 s H locs := hw
    refine lv_aload_n hx hb dX12_meeting_183 rfl (lv_at hl 1 rfl) ?_
    refine lv_iload_n hx hb dX12_meeting_184 rfl (lv_at hl 2 rfl) ?_
    refine lv_iconst (v := 4) hx hb dX12_meeting_185 (by decide) ?_
    refine W_bind fun z12 hz => ?_
    refine w_after (cells1 := 0) (slots1 := 0) (w_runV E kV_R_257 kc_X12_of (t_R_of l hfl G on x3 4 M z11 ((fun z => (.inl (some (.int z)), M, z11)) z12) (by rw [hz]; rfl)) ⟨Nat.le_of_ble_eq_true rfl, Nat.le_of_ble_eq_true rfl⟩ hw (w_recvR E hw on) rfl hl.1 rfl (Nat.le_of_ble_eq_true rfl) dX12_meeting_186 ⟨Nat.le_of_ble_eq_true rfl, Nat.le_of_ble_eq_true rfl⟩) hw rfl (Nat.le_of_ble_eq_true rfl) (Nat.le_of_ble_eq_true rfl) (fun H locs hw => ?_)
    refine W.eq (g2 := F0 m 189 ls [.int z12]) rfl ?_
    have hw : w_W G M z11 s H locs := hw
    refine lv_aload_n hx hb dX12_meeting_189 rfl (lv_at hl 1 rfl) ?_
    refine lv_iload hx hb dX12_meeting_190 (lv_at hl 3 rfl) ?_
    refine lv_iconst (v := 4) hx hb dX12_meeting_192 (by decide) ?_
    refine W_bind fun z13 hz => ?_
    refine w_after (cells1 := 0) (slots1 := 0) (w_runV E kV_R_257 kc_X12_of (t_R_of l hfl G on x4 4 M z11 ((fun z => (.inl (some (.int z)), M, z11)) z13) (by rw [hz]; rfl)) ⟨Nat.le_of_ble_eq_true rfl, Nat.le_of_ble_eq_true rfl⟩ hw (w_recvR E hw on) rfl hl.1 rfl (Nat.le_of_ble_eq_true rfl) dX12_meeting_193 ⟨Nat.le_of_ble_eq_true rfl, Nat.le_of_ble_eq_true rfl⟩) hw rfl (Nat.le_of_ble_eq_true rfl) (Nat.le_of_ble_eq_true rfl) (fun H locs hw => ?_)
    refine W.eq (g2 := F0 m 196 ls [.int z13, .int z12]) rfl ?_
    have hw : w_W G M z11 s H locs := hw
    refine lv_iadd hx hb dX12_meeting_196 ?_
    refine cx_if_le (tgt := 229) E dX12_meeting_197 (by decide) (fun _ => ?_) (fun _ => ?_)
    · exact w229  x3 x4 x5 x6 y0 x9 x10 x11 z11 _ _ _ hw (lv_sub hl [1, 2, 3, 4, 5, 0, 6, 7, 8] rfl)
    · refine lv_iload hx hb dX12_meeting_200 (lv_at hl 7 rfl) ?_
      refine lv_iconst (v := 3) hx hb dX12_meeting_202 (by decide) ?_
      refine lv_ishr hx hb dX12_meeting_203 ?_
      refine cx_if_eq (tgt := 229) E dX12_meeting_204 (by decide) (fun _ => ?_) (fun _ => ?_)
      · exact w229  x3 x4 x5 x6 y0 x9 x10 x11 z11 _ _ _ hw (lv_sub hl [1, 2, 3, 4, 5, 0, 6, 7, 8] rfl)
      · refine lv_iload hx hb dX12_meeting_207 (lv_at hl 8 rfl) ?_
        refine lv_iconst (v := 3) hx hb dX12_meeting_209 (by decide) ?_
        refine lv_ishr hx hb dX12_meeting_210 ?_
        refine cx_if_eq (tgt := 229) E dX12_meeting_211 (by decide) (fun _ => ?_) (fun _ => ?_)
        · exact w229  x3 x4 x5 x6 y0 x9 x10 x11 z11 _ _ _ hw (lv_sub hl [1, 2, 3, 4, 5, 0, 6, 7, 8] rfl)
        · refine lv_aload_n hx hb dX12_meeting_214 rfl (lv_at hl 1 rfl) ?_
          refine lv_iload_n hx hb dX12_meeting_215 rfl (lv_at hl 2 rfl) ?_
          refine lv_iconst (v := 4) hx hb dX12_meeting_216 (by decide) ?_
          refine lv_iconst (v := 1) hx hb dX12_meeting_217 (by decide) ?_
          refine W_bind fun z14 hz => ?_
          refine w_after (cells1 := 0) (slots1 := 0) (w_runV E kV_R_141 kc_X12_has (t_R_has l hfl G on x3 4 1 M z11 ((fun z => (.inl none, M, z)) z14) (by rw [hz]; rfl)) ⟨Nat.le_of_ble_eq_true rfl, Nat.le_of_ble_eq_true rfl⟩ hw (w_recvR E hw on) rfl hl.1 rfl (Nat.le_of_ble_eq_true rfl) dX12_meeting_218 ⟨Nat.le_of_ble_eq_true rfl, Nat.le_of_ble_eq_true rfl⟩) hw rfl (Nat.le_of_ble_eq_true rfl) (Nat.le_of_ble_eq_true rfl) (fun H locs hw => ?_)
          refine W.eq (g2 := F0 m 221 ls []) rfl ?_
          have hw : w_W G M z14 s H locs := hw
          refine lv_aload_n hx hb dX12_meeting_221 rfl (lv_at hl 1 rfl) ?_
          refine lv_iload hx hb dX12_meeting_222 (lv_at hl 3 rfl) ?_
          refine lv_iconst (v := 4) hx hb dX12_meeting_224 (by decide) ?_
          refine lv_iconst (v := 1) hx hb dX12_meeting_225 (by decide) ?_
          refine W_bind fun z15 hz => ?_
          refine w_after (cells1 := 0) (slots1 := 0) (w_runV E kV_R_141 kc_X12_has (t_R_has l hfl G on x4 4 1 M z14 ((fun z => (.inl none, M, z)) z15) (by rw [hz]; rfl)) ⟨Nat.le_of_ble_eq_true rfl, Nat.le_of_ble_eq_true rfl⟩ hw (w_recvR E hw on) rfl hl.1 rfl (Nat.le_of_ble_eq_true rfl) dX12_meeting_226 ⟨Nat.le_of_ble_eq_true rfl, Nat.le_of_ble_eq_true rfl⟩) hw rfl (Nat.le_of_ble_eq_true rfl) (Nat.le_of_ble_eq_true rfl) (fun H locs hw => ?_)
          refine W.eq (g2 := F0 m 229 ls []) rfl ?_
          have hw : w_W G M z15 s H locs := hw
          exact w229  x3 x4 x5 x6 y0 x9 x10 x11 z15 _ _ _ hw (lv_sub hl [1, 2, 3, 4, 5, 0, 6, 7, 8] rfl)
  have w146 : ∀ (x3 : Int32) (x4 : Int32) (x5 : Int32) (x6 : Int32) (x7 : Int32) (x9 : Int32) (x10 : Int32) (y0 : Int32) (r : Rho) (H : Heap) (locs : List Loc) (ls : Array Slot), w_W G M r s H locs → lv_has ls 13 [(0, .ref (g_r G)), (3, .int x3), (4, .int x4), (5, .int x5), (6, .int x6), (7, .int x7), (9, .int x9), (10, .int x10)] → W p l e rm_R_meeting s m args below meth c H locs 0 0 (PQ G below args s rm_R_meeting.cells rm_R_meeting.slots (fun z => (.inl (some (.int z.1)), M, z.2)) (f_R_meeting_146 N a0 a1 x3 x4 x5 x6 x7 x9 x10 y0 r)) (F0 m 146 ls [.int y0]) := by
    intro x3 x4 x5 x6 x7 x9 x10 y0 r H locs ls hw hl
    unfold f_R_meeting_146
    refine lv_istore (lv' := [(11, .int y0), (0, .ref (g_r G)), (3, .int x3), (4, .int x4), (5, .int x5), (6, .int x6), (7, .int x7), (9, .int x9), (10, .int x10)]) hx hb dX12_meeting_146 hl (by decide) rfl (fun ls hl => ?_)
    refine lv_iload hx hb dX12_meeting_148 (lv_at hl 7 rfl) ?_
    refine lv_iconst (v := (-1)) hx hb dX12_meeting_150 (by decide) ?_
    refine cx_icmp_ne (tgt := 159) E dX12_meeting_151 (by decide) (fun _ => ?_) (fun _ => ?_)
    · refine lv_iload hx hb dX12_meeting_159 (lv_at hl 6 rfl) ?_
      refine lv_iconst (v := 2) hx hb dX12_meeting_161 (by decide) ?_
      refine lv_idiv hx hb dX12_meeting_162 (by decide) ?_
      exact w163  x3 x4 x5 x6 x9 x10 y0 (x7 / 2) r _ _ _ hw (lv_sub hl [1, 2, 3, 4, 5, 7, 8, 0] rfl)
    · refine lv_iload hx hb dX12_meeting_154 (lv_at hl 6 rfl) ?_
      refine lv_goto (tgt := 163) hx hb dX12_meeting_156 (by decide) ?_
      exact w163  x3 x4 x5 x6 x9 x10 y0 x7 r _ _ _ hw (lv_sub hl [1, 2, 3, 4, 5, 7, 8, 0] rfl)
  have w130 : ∀ (x3 : Int32) (x4 : Int32) (x5 : Int32) (x6 : Int32) (x7 : Int32) (x9 : Int32) (y0 : Int32) (r : Rho) (H : Heap) (locs : List Loc) (ls : Array Slot), w_W G M r s H locs → lv_has ls 13 [(0, .ref (g_r G)), (3, .int x3), (4, .int x4), (5, .int x5), (6, .int x6), (7, .int x7), (9, .int x9)] → W p l e rm_R_meeting s m args below meth c H locs 0 0 (PQ G below args s rm_R_meeting.cells rm_R_meeting.slots (fun z => (.inl (some (.int z.1)), M, z.2)) (f_R_meeting_130 N a0 a1 x3 x4 x5 x6 x7 x9 y0 r)) (F0 m 130 ls [.int y0]) := by
    intro x3 x4 x5 x6 x7 x9 y0 r H locs ls hw hl
    unfold f_R_meeting_130
    refine lv_istore (lv' := [(10, .int y0), (0, .ref (g_r G)), (3, .int x3), (4, .int x4), (5, .int x5), (6, .int x6), (7, .int x7), (9, .int x9)]) hx hb dX12_meeting_130 hl (by decide) rfl (fun ls hl => ?_)
    refine lv_iload hx hb dX12_meeting_132 (lv_at hl 7 rfl) ?_
    refine lv_iload hx hb dX12_meeting_134 (lv_at hl 3 rfl) ?_
    refine cx_icmp_ne (tgt := 144) E dX12_meeting_136 (by decide) (fun _ => ?_) (fun _ => ?_)
    · refine lv_iload hx hb dX12_meeting_144 (lv_at hl 5 rfl) ?_
      exact w146  x3 x4 x5 x6 x7 x9 y0 x6 r _ _ _ hw (lv_sub hl [1, 2, 3, 4, 5, 6, 7, 0] rfl)
    · refine lv_iload hx hb dX12_meeting_139 (lv_at hl 4 rfl) ?_
      refine lv_goto (tgt := 146) hx hb dX12_meeting_141 (by decide) ?_
      exact w146  x3 x4 x5 x6 x7 x9 y0 x5 r _ _ _ hw (lv_sub hl [1, 2, 3, 4, 5, 6, 7, 0] rfl)
  have w117 : ∀ (x3 : Int32) (x4 : Int32) (x5 : Int32) (x6 : Int32) (x7 : Int32) (x9 : Int32) (r : Rho) (H : Heap) (locs : List Loc) (ls : Array Slot), w_W G M r s H locs → lv_has ls 13 [(0, .ref (g_r G)), (3, .int x3), (4, .int x4), (5, .int x5), (6, .int x6), (7, .int x7), (9, .int x9)] → W p l e rm_R_meeting s m args below meth c H locs 0 0 (PQ G below args s rm_R_meeting.cells rm_R_meeting.slots (fun z => (.inl (some (.int z.1)), M, z.2)) (f_R_meeting_117 N a0 a1 x3 x4 x5 x6 x7 x9 r)) (F0 m 117 ls []) := by
    intro x3 x4 x5 x6 x7 x9 r H locs ls hw hl
    unfold f_R_meeting_117
    refine lv_iload hx hb dX12_meeting_117 (lv_at hl 6 rfl) ?_
    refine lv_iload_n hx hb dX12_meeting_119 rfl (lv_at hl 1 rfl) ?_
    refine cx_icmp_ne (tgt := 128) E dX12_meeting_120 (by decide) (fun _ => ?_) (fun _ => ?_)
    · refine lv_iload hx hb dX12_meeting_128 (lv_at hl 3 rfl) ?_
      exact w130  x3 x4 x5 x6 x7 x9 x5 r _ _ _ hw (lv_sub hl [0, 1, 2, 3, 4, 5, 6] rfl)
    · refine lv_iload hx hb dX12_meeting_123 (lv_at hl 4 rfl) ?_
      refine lv_goto (tgt := 130) hx hb dX12_meeting_125 (by decide) ?_
      exact w130  x3 x4 x5 x6 x7 x9 x6 r _ _ _ hw (lv_sub hl [0, 1, 2, 3, 4, 5, 6] rfl)
  have w89 : ∀ (x3 : Int32) (x4 : Int32) (x5 : Int32) (x6 : Int32) (x7 : Int32) (x8 : Int32) (x9 : Int32) (r : Rho) (H : Heap) (locs : List Loc) (ls : Array Slot), w_W G M r s H locs → lv_has ls 13 [(0, .ref (g_r G)), (3, .int x3), (4, .int x4), (5, .int x5), (6, .int x6), (7, .int x7), (8, .int x8), (9, .int x9)] → W p l e rm_R_meeting s m args below meth c H locs 0 0 (PQ G below args s rm_R_meeting.cells rm_R_meeting.slots (fun z => (.inl (some (.int z.1)), M, z.2)) (f_R_meeting_89 N a0 a1 x3 x4 x5 x6 x7 x8 x9 r)) (F0 m 89 ls []) := by
    intro x3 x4 x5 x6 x7 x8 x9 r H locs ls hw hl
    unfold f_R_meeting_89
    refine lv_iload hx hb dX12_meeting_89 (lv_at hl 5 rfl) ?_
    refine cx_if_le (tgt := 117) E dX12_meeting_91 (by decide) (fun _ => ?_) (fun _ => ?_)
    · exact w117  x3 x4 x5 x6 x7 x9 r _ _ _ hw (lv_sub hl [0, 1, 2, 3, 4, 5, 7] rfl)
    · refine lv_aload_n hx hb dX12_meeting_94 rfl (lv_at hl 0 rfl) ?_
      refine lv_iload_n hx hb dX12_meeting_95 rfl (lv_at hl 1 rfl) ?_
      refine lv_iload hx hb dX12_meeting_96 (lv_at hl 2 rfl) ?_
      refine lv_iadd hx hb dX12_meeting_98 ?_
      refine lv_iload hx hb dX12_meeting_99 (lv_at hl 6 rfl) ?_
      refine lv_isub hx hb dX12_meeting_101 ?_
      refine W_bind fun z9 hz => ?_
      refine w_after (cells1 := 0) (slots1 := 0) (w_runV E kV_R_290 kc_X12_isBent (t_R_isBent l hfl G on ((x3 + x4) - x8) M r ((fun z => (.inl (some (.int z.1)), M, z.2)) z9) (by rw [hz]; rfl)) ⟨Nat.le_of_ble_eq_true rfl, Nat.le_of_ble_eq_true rfl⟩ hw (w_recvR E hw on) rfl hl.1 rfl (Nat.le_of_ble_eq_true rfl) dX12_meeting_102 ⟨Nat.le_of_ble_eq_true rfl, Nat.le_of_ble_eq_true rfl⟩) hw rfl (Nat.le_of_ble_eq_true rfl) (Nat.le_of_ble_eq_true rfl) (fun H locs hw => ?_)
      refine W.eq (g2 := F0 m 105 ls [.int z9.1]) rfl ?_
      have hw : w_W G M z9.2 s H locs := hw
      refine cx_if_eq (tgt := 117) E dX12_meeting_105 (by decide) (fun _ => ?_) (fun _ => ?_)
      · exact w117  x3 x4 x5 x6 x7 x9 z9.2 _ _ _ hw (lv_sub hl [0, 1, 2, 3, 4, 5, 7] rfl)
      · refine lv_iload_n hx hb dX12_meeting_108 rfl (lv_at hl 1 rfl) ?_
        refine lv_iload hx hb dX12_meeting_109 (lv_at hl 2 rfl) ?_
        refine lv_iadd hx hb dX12_meeting_111 ?_
        refine lv_iload hx hb dX12_meeting_112 (lv_at hl 6 rfl) ?_
        refine lv_isub hx hb dX12_meeting_114 ?_
        refine lv_istore (lv' := [(9, .int ((x3 + x4) - x8)), (0, .ref (g_r G)), (3, .int x3), (4, .int x4), (5, .int x5), (6, .int x6), (7, .int x7), (8, .int x8)]) hx hb dX12_meeting_115 hl (by decide) rfl (fun ls hl => ?_)
        exact w117  x3 x4 x5 x6 x7 ((x3 + x4) - x8) z9.2 _ _ _ hw (lv_sub hl [1, 2, 3, 4, 5, 6, 0] rfl)
  have w63 : ∀ (x3 : Int32) (x4 : Int32) (x5 : Int32) (x6 : Int32) (x7 : Int32) (y0 : Int32) (r : Rho) (H : Heap) (locs : List Loc) (ls : Array Slot), w_W G M r s H locs → lv_has ls 13 [(0, .ref (g_r G)), (3, .int x3), (4, .int x4), (5, .int x5), (6, .int x6), (7, .int x7)] → W p l e rm_R_meeting s m args below meth c H locs 0 0 (PQ G below args s rm_R_meeting.cells rm_R_meeting.slots (fun z => (.inl (some (.int z.1)), M, z.2)) (f_R_meeting_63 N a0 a1 x3 x4 x5 x6 x7 y0 r)) (F0 m 63 ls [.int y0]) := by
    intro x3 x4 x5 x6 x7 y0 r H locs ls hw hl
    unfold f_R_meeting_63
    refine lv_istore (lv' := [(8, .int y0), (0, .ref (g_r G)), (3, .int x3), (4, .int x4), (5, .int x5), (6, .int x6), (7, .int x7)]) hx hb dX12_meeting_63 hl (by decide) rfl (fun ls hl => ?_)
    refine lv_iconst (v := (-1)) hx hb dX12_meeting_65 (by decide) ?_
    refine lv_istore (lv' := [(9, .int (-1)), (8, .int y0), (0, .ref (g_r G)), (3, .int x3), (4, .int x4), (5, .int x5), (6, .int x6), (7, .int x7)]) hx hb dX12_meeting_66 hl (by decide) rfl (fun ls hl => ?_)
    refine lv_iload hx hb dX12_meeting_68 (lv_at hl 7 rfl) ?_
    refine cx_if_le (tgt := 89) E dX12_meeting_70 (by decide) (fun _ => ?_) (fun _ => ?_)
    · exact w89  x3 x4 x5 x6 x7 y0 (-1) r _ _ _ hw (lv_sub hl [2, 3, 4, 5, 6, 7, 1, 0] rfl)
    · refine lv_aload_n hx hb dX12_meeting_73 rfl (lv_at hl 2 rfl) ?_
      refine lv_iload hx hb dX12_meeting_74 (lv_at hl 1 rfl) ?_
      refine W_bind fun z8 hz => ?_
      refine w_after (cells1 := 0) (slots1 := 0) (w_runV E kV_R_290 kc_X12_isBent (t_R_isBent l hfl G on y0 M r ((fun z => (.inl (some (.int z.1)), M, z.2)) z8) (by rw [hz]; rfl)) ⟨Nat.le_of_ble_eq_true rfl, Nat.le_of_ble_eq_true rfl⟩ hw (w_recvR E hw on) rfl hl.1 rfl (Nat.le_of_ble_eq_true rfl) dX12_meeting_76 ⟨Nat.le_of_ble_eq_true rfl, Nat.le_of_ble_eq_true rfl⟩) hw rfl (Nat.le_of_ble_eq_true rfl) (Nat.le_of_ble_eq_true rfl) (fun H locs hw => ?_)
      refine W.eq (g2 := F0 m 79 ls [.int z8.1]) rfl ?_
      have hw : w_W G M z8.2 s H locs := hw
      refine cx_if_eq (tgt := 89) E dX12_meeting_79 (by decide) (fun _ => ?_) (fun _ => ?_)
      · exact w89  x3 x4 x5 x6 x7 y0 (-1) z8.2 _ _ _ hw (lv_sub hl [2, 3, 4, 5, 6, 7, 1, 0] rfl)
      · refine lv_iload hx hb dX12_meeting_82 (lv_at hl 1 rfl) ?_
        refine lv_istore (lv' := [(9, .int y0), (8, .int y0), (0, .ref (g_r G)), (3, .int x3), (4, .int x4), (5, .int x5), (6, .int x6), (7, .int x7)]) hx hb dX12_meeting_84 hl (by decide) rfl (fun ls hl => ?_)
        refine lv_goto (tgt := 117) hx hb dX12_meeting_86 (by decide) ?_
        exact w117  x3 x4 x5 x6 x7 y0 z8.2 _ _ _ hw (lv_sub hl [2, 3, 4, 5, 6, 7, 0] rfl)
  unfold f_R_meeting
  refine lv_iload_n hx hb dX12_meeting_0 rfl (lv_at hl 1 rfl) ?_
  refine lv_iload_n hx hb dX12_meeting_1 rfl (lv_at hl 2 rfl) ?_
  refine W_bind fun z1 hz => ?_
  refine w_after (cells1 := 0) (slots1 := 0) (w_runS E kS_R_284 kc_X12_lesser (t_R_lesser l hfl G a0 a1 M r ((fun z => (.inl (some (.int z)), M, r)) z1) (by rw [hz]; rfl)) ⟨Nat.le_of_ble_eq_true rfl, Nat.le_of_ble_eq_true rfl⟩ hw rfl hl.1 rfl (Nat.le_of_ble_eq_true rfl) dX12_meeting_2 ⟨Nat.le_of_ble_eq_true rfl, Nat.le_of_ble_eq_true rfl⟩) hw rfl (Nat.le_of_ble_eq_true rfl) (Nat.le_of_ble_eq_true rfl) (fun H locs hw => ?_)
  refine W.eq (g2 := F0 m 5 ls [.int z1]) rfl ?_
  have hw : w_W G M r s H locs := hw
  refine lv_istore_n (lv' := [(3, .int z1), (0, .ref (g_r G)), (1, .int a0), (2, .int a1)]) hx hb dX12_meeting_5 rfl hl (by decide) rfl (fun ls hl => ?_)
  refine lv_iload_n hx hb dX12_meeting_6 rfl (lv_at hl 2 rfl) ?_
  refine lv_iload_n hx hb dX12_meeting_7 rfl (lv_at hl 3 rfl) ?_
  refine W_bind fun z2 hz => ?_
  refine w_after (cells1 := 0) (slots1 := 0) (w_runS E kS_R_287 kc_X12_greater (t_R_greater l hfl G a0 a1 M r ((fun z => (.inl (some (.int z)), M, r)) z2) (by rw [hz]; rfl)) ⟨Nat.le_of_ble_eq_true rfl, Nat.le_of_ble_eq_true rfl⟩ hw rfl hl.1 rfl (Nat.le_of_ble_eq_true rfl) dX12_meeting_8 ⟨Nat.le_of_ble_eq_true rfl, Nat.le_of_ble_eq_true rfl⟩) hw rfl (Nat.le_of_ble_eq_true rfl) (Nat.le_of_ble_eq_true rfl) (fun H locs hw => ?_)
  refine W.eq (g2 := F0 m 11 ls [.int z2]) rfl ?_
  have hw : w_W G M r s H locs := hw
  refine lv_istore (lv' := [(4, .int z2), (3, .int z1), (0, .ref (g_r G)), (1, .int a0), (2, .int a1)]) hx hb dX12_meeting_11 hl (by decide) rfl (fun ls hl => ?_)
  refine lv_aload_n hx hb dX12_meeting_13 rfl (lv_at hl 2 rfl) ?_
  refine lv_iload_n hx hb dX12_meeting_14 rfl (lv_at hl 1 rfl) ?_
  refine lv_iload hx hb dX12_meeting_15 (lv_at hl 0 rfl) ?_
  refine W_bind fun z3 hz => ?_
  refine w_after (cells1 := 0) (slots1 := 0) (w_runV E kV_R_280 kc_X12_beginning (t_R_beginning l hfl G on N z1 z2 M r ((fun z => (.inl (some (.int z.1)), M, z.2)) z3) (by rw [hz]; rfl)) ⟨Nat.le_of_ble_eq_true rfl, Nat.le_of_ble_eq_true rfl⟩ hw (w_recvR E hw on) rfl hl.1 rfl (Nat.le_of_ble_eq_true rfl) dX12_meeting_17 ⟨Nat.le_of_ble_eq_true rfl, Nat.le_of_ble_eq_true rfl⟩) hw rfl (Nat.le_of_ble_eq_true rfl) (Nat.le_of_ble_eq_true rfl) (fun H locs hw => ?_)
  refine W.eq (g2 := F0 m 20 ls [.int z3.1]) rfl ?_
  have hw : w_W G M z3.2 s H locs := hw
  refine lv_istore (lv' := [(5, .int z3.1), (4, .int z2), (3, .int z1), (0, .ref (g_r G)), (1, .int a0), (2, .int a1)]) hx hb dX12_meeting_20 hl (by decide) rfl (fun ls hl => ?_)
  refine lv_aload_n hx hb dX12_meeting_22 rfl (lv_at hl 3 rfl) ?_
  refine lv_iload hx hb dX12_meeting_23 (lv_at hl 1 rfl) ?_
  refine lv_iload_n hx hb dX12_meeting_25 rfl (lv_at hl 2 rfl) ?_
  refine W_bind fun z4 hz => ?_
  refine w_after (cells1 := 0) (slots1 := 0) (w_runV E kV_R_280 kc_X12_beginning (t_R_beginning l hfl G on N z2 z1 M z3.2 ((fun z => (.inl (some (.int z.1)), M, z.2)) z4) (by rw [hz]; rfl)) ⟨Nat.le_of_ble_eq_true rfl, Nat.le_of_ble_eq_true rfl⟩ hw (w_recvR E hw on) rfl hl.1 rfl (Nat.le_of_ble_eq_true rfl) dX12_meeting_26 ⟨Nat.le_of_ble_eq_true rfl, Nat.le_of_ble_eq_true rfl⟩) hw rfl (Nat.le_of_ble_eq_true rfl) (Nat.le_of_ble_eq_true rfl) (fun H locs hw => ?_)
  refine W.eq (g2 := F0 m 29 ls [.int z4.1]) rfl ?_
  have hw : w_W G M z4.2 s H locs := hw
  refine lv_istore (lv' := [(6, .int z4.1), (5, .int z3.1), (4, .int z2), (3, .int z1), (0, .ref (g_r G)), (1, .int a0), (2, .int a1)]) hx hb dX12_meeting_29 hl (by decide) rfl (fun ls hl => ?_)
  refine lv_aload_n hx hb dX12_meeting_31 rfl (lv_at hl 4 rfl) ?_
  refine lv_iload hx hb dX12_meeting_32 (lv_at hl 1 rfl) ?_
  refine lv_iload hx hb dX12_meeting_34 (lv_at hl 0 rfl) ?_
  refine W_bind fun z5 hz => ?_
  refine w_after (cells1 := 0) (slots1 := 0) (w_runV E kV_R_263 kc_X12_costOf (t_R_costOf l hfl G on z3.1 z4.1 M z4.2 ((fun z => (.inl (some (.int z)), M, z4.2)) z5) (by rw [hz]; rfl)) ⟨Nat.le_of_ble_eq_true rfl, Nat.le_of_ble_eq_true rfl⟩ hw (w_recvR E hw on) rfl hl.1 rfl (Nat.le_of_ble_eq_true rfl) dX12_meeting_36 ⟨Nat.le_of_ble_eq_true rfl, Nat.le_of_ble_eq_true rfl⟩) hw rfl (Nat.le_of_ble_eq_true rfl) (Nat.le_of_ble_eq_true rfl) (fun H locs hw => ?_)
  refine W.eq (g2 := F0 m 39 ls [.int z5]) rfl ?_
  have hw : w_W G M z4.2 s H locs := hw
  refine lv_istore (lv' := [(7, .int z5), (6, .int z4.1), (5, .int z3.1), (4, .int z2), (3, .int z1), (0, .ref (g_r G)), (1, .int a0), (2, .int a1)]) hx hb dX12_meeting_39 hl (by decide) rfl (fun ls hl => ?_)
  refine lv_aload_n hx hb dX12_meeting_41 rfl (lv_at hl 5 rfl) ?_
  refine lv_iload hx hb dX12_meeting_42 (lv_at hl 3 rfl) ?_
  refine lv_iconst (v := 2) hx hb dX12_meeting_44 (by decide) ?_
  refine W_bind fun z6 hz => ?_
  refine w_after (cells1 := 0) (slots1 := 0) (w_runV E kV_R_257 kc_X12_of (t_R_of l hfl G on z2 2 M z4.2 ((fun z => (.inl (some (.int z)), M, z4.2)) z6) (by rw [hz]; rfl)) ⟨Nat.le_of_ble_eq_true rfl, Nat.le_of_ble_eq_true rfl⟩ hw (w_recvR E hw on) rfl hl.1 rfl (Nat.le_of_ble_eq_true rfl) dX12_meeting_45 ⟨Nat.le_of_ble_eq_true rfl, Nat.le_of_ble_eq_true rfl⟩) hw rfl (Nat.le_of_ble_eq_true rfl) (Nat.le_of_ble_eq_true rfl) (fun H locs hw => ?_)
  refine W.eq (g2 := F0 m 48 ls [.int z6]) rfl ?_
  have hw : w_W G M z4.2 s H locs := hw
  refine lv_aload_n hx hb dX12_meeting_48 rfl (lv_at hl 5 rfl) ?_
  refine lv_iload_n hx hb dX12_meeting_49 rfl (lv_at hl 4 rfl) ?_
  refine lv_iconst (v := 2) hx hb dX12_meeting_50 (by decide) ?_
  refine W_bind fun z7 hz => ?_
  refine w_after (cells1 := 0) (slots1 := 0) (w_runV E kV_R_257 kc_X12_of (t_R_of l hfl G on z1 2 M z4.2 ((fun z => (.inl (some (.int z)), M, z4.2)) z7) (by rw [hz]; rfl)) ⟨Nat.le_of_ble_eq_true rfl, Nat.le_of_ble_eq_true rfl⟩ hw (w_recvR E hw on) rfl hl.1 rfl (Nat.le_of_ble_eq_true rfl) dX12_meeting_51 ⟨Nat.le_of_ble_eq_true rfl, Nat.le_of_ble_eq_true rfl⟩) hw rfl (Nat.le_of_ble_eq_true rfl) (Nat.le_of_ble_eq_true rfl) (fun H locs hw => ?_)
  refine W.eq (g2 := F0 m 54 ls [.int z7, .int z6]) rfl ?_
  have hw : w_W G M z4.2 s H locs := hw
  refine cx_icmp_ge (tgt := 62) E dX12_meeting_54 (by decide) (fun _ => ?_) (fun _ => ?_)
  · refine lv_iload_n hx hb dX12_meeting_62 rfl (lv_at hl 4 rfl) ?_
    exact w63  z1 z2 z3.1 z4.1 z5 z1 z4.2 _ _ _ hw (lv_sub hl [5, 4, 3, 2, 1, 0] rfl)
  · refine lv_iload hx hb dX12_meeting_57 (lv_at hl 3 rfl) ?_
    refine lv_goto (tgt := 63) hx hb dX12_meeting_59 (by decide) ?_
    exact w63  z1 z2 z3.1 z4.1 z5 z2 z4.2 _ _ _ hw (lv_sub hl [5, 4, 3, 2, 1, 0] rfl)
set_option maxHeartbeats 4000000 in
set_option maxRecDepth 100000 in
theorem t_R_meet (l : Launch) (hfl : l.stackTraces = false) (G : wG) (on : g_on G = true) (N : Nat) (a0 : Int32) (a1 : Int32) (M : Mem) (r : Rho) : Ctr l yX12_meet (wWs yX12_meet cX12_meet 3 (some .int)) rm_R_meet rm_R_meet.cells rm_R_meet.slots G [.ref (g_r G), .int a0, .int a1] M r ((f_R_meet N a0 a1 r).map (fun z => (.inl (some (.int z.1)), M, z.2))) := by
  refine Ctr.ofF (own := "CheekTownModel") (by decide +kernel) hfl rfl (Nat.le_of_ble_eq_true rfl) (fun p e s m args below meth c E hno hr hnm hw ls hl => ?_)
  obtain ⟨hx, hb, hts, hown, hml, hTT, -⟩ := id E
  have hl : lv_has ls 3 [(0, .ref (g_r G)), (1, .int a0), (2, .int a1)] := hl
  obtain ⟨H, hH⟩ : ∃ H, H = s.heap := ⟨_, rfl⟩
  obtain ⟨locs, hlo⟩ : ∃ L : List Loc, L = [] := ⟨_, rfl⟩
  rw [← hH, ← hlo]
  rw [← hlo] at hw
  replace hw : w_W G M r s H locs := by rw [hH]; exact hw
  unfold f_R_meet
  refine lv_aload_n hx hb dX12_meet_0 rfl (lv_at hl 0 rfl) ?_
  refine lv_aload_n hx hb dX12_meet_1 rfl (lv_at hl 0 rfl) ?_
  refine lv_iload_n hx hb dX12_meet_2 rfl (lv_at hl 1 rfl) ?_
  refine lv_iload_n hx hb dX12_meet_3 rfl (lv_at hl 2 rfl) ?_
  refine W_bind fun z1 hz => ?_
  refine w_after (cells1 := 0) (slots1 := 0) (w_runV E kV_R_277 kc_X12_two (t_R_two l hfl G on a0 a1 M r ((fun z => (.inl (some (.int z)), M, r)) z1) (by rw [hz]; rfl)) ⟨Nat.le_of_ble_eq_true rfl, Nat.le_of_ble_eq_true rfl⟩ hw (w_recvR E hw on) rfl hl.1 rfl (Nat.le_of_ble_eq_true rfl) dX12_meet_4 ⟨Nat.le_of_ble_eq_true rfl, Nat.le_of_ble_eq_true rfl⟩) hw rfl (Nat.le_of_ble_eq_true rfl) (Nat.le_of_ble_eq_true rfl) (fun H locs hw => ?_)
  refine W.eq (g2 := F0 m 7 ls [.int z1, .ref (g_r G)]) rfl ?_
  have hw : w_W G M r s H locs := hw
  refine rx_putI E hw on kF_R_56_11 (by decide) kT_11_0 dX12_meet_7 (fun H locs hw => ?_)
  refine lv_aload_n hx hb dX12_meet_10 rfl (lv_at hl 0 rfl) ?_
  refine rx_getI E hw on kF_R_56_11 (by decide) dX12_meet_11 ?_
  refine cx_if_le (tgt := 19) E dX12_meet_14 (by decide) (fun _ => ?_) (fun _ => ?_)
  · refine lv_aload_n hx hb dX12_meet_19 rfl (lv_at hl 0 rfl) ?_
    refine W_bind fun z2 hz => ?_
    refine w_after (cells1 := 0) (slots1 := 0) (w_runV E kV_R_296 kc_X12_remembers (t_R_remembers l hfl G on N M (r_set r 0 z1) ((fun z => (.inl none, M, z)) z2) (by rw [hz]; rfl)) ⟨Nat.le_of_ble_eq_true rfl, Nat.le_of_ble_eq_true rfl⟩ hw (w_recvR E hw on) rfl hl.1 rfl (Nat.le_of_ble_eq_true rfl) dX12_meet_20 ⟨Nat.le_of_ble_eq_true rfl, Nat.le_of_ble_eq_true rfl⟩) hw rfl (Nat.le_of_ble_eq_true rfl) (Nat.le_of_ble_eq_true rfl) (fun H locs hw => ?_)
    refine W.eq (g2 := F0 m 23 ls []) rfl ?_
    have hw : w_W G M z2 s H locs := hw
    refine lv_aload_n hx hb dX12_meet_23 rfl (lv_at hl 0 rfl) ?_
    refine lv_iload_n hx hb dX12_meet_24 rfl (lv_at hl 1 rfl) ?_
    refine lv_iload_n hx hb dX12_meet_25 rfl (lv_at hl 2 rfl) ?_
    refine W_bind fun z3 hz => ?_
    refine w_after (cells1 := 0) (slots1 := 0) (w_runV E kV_R_299 kc_X12_meeting (t_R_meeting l hfl G on N a0 a1 M z2 ((fun z => (.inl (some (.int z.1)), M, z.2)) z3) (by rw [hz]; rfl)) ⟨Nat.le_of_ble_eq_true rfl, Nat.le_of_ble_eq_true rfl⟩ hw (w_recvR E hw on) rfl hl.1 rfl (Nat.le_of_ble_eq_true rfl) dX12_meet_26 ⟨Nat.le_of_ble_eq_true rfl, Nat.le_of_ble_eq_true rfl⟩) hw rfl (Nat.le_of_ble_eq_true rfl) (Nat.le_of_ble_eq_true rfl) (fun H locs hw => ?_)
    refine W.eq (g2 := F0 m 29 ls [.int z3.1]) rfl ?_
    have hw : w_W G M z3.2 s H locs := hw
    exact p_iret E hw hr (Nat.le_of_ble_eq_true rfl) (Nat.le_of_ble_eq_true rfl) rfl dX12_meet_29
  · refine lv_iconst (v := 0) hx hb dX12_meet_17 (by decide) ?_
    exact p_iret E hw hr (Nat.le_of_ble_eq_true rfl) (Nat.le_of_ble_eq_true rfl) rfl dX12_meet_18
set_option maxHeartbeats 4000000 in
set_option maxRecDepth 100000 in
theorem t_R_goes (l : Launch) (hfl : l.stackTraces = false) (G : wG) (on : g_on G = true) (N : Nat) (a0 : Int32) (M : Mem) (r : Rho) : Ctr l yX12_goes (wWs yX12_goes cX12_goes 5 (some .int)) rm_R_goes rm_R_goes.cells rm_R_goes.slots G [.ref (g_r G), .int a0] M r ((f_R_goes N a0 r).map (fun z => (.inl (some (.int z.1)), M, z.2))) := by
  refine Ctr.ofF (own := "CheekTownModel") (by decide +kernel) hfl rfl (Nat.le_of_ble_eq_true rfl) (fun p e s m args below meth c E hno hr hnm hw ls hl => ?_)
  obtain ⟨hx, hb, hts, hown, hml, hTT, -⟩ := id E
  have hl : lv_has ls 5 [(0, .ref (g_r G)), (1, .int a0)] := hl
  obtain ⟨H, hH⟩ : ∃ H, H = s.heap := ⟨_, rfl⟩
  obtain ⟨locs, hlo⟩ : ∃ L : List Loc, L = [] := ⟨_, rfl⟩
  rw [← hH, ← hlo]
  rw [← hlo] at hw
  replace hw : w_W G M r s H locs := by rw [hH]; exact hw
  have w12 : ∀ (k4 : Int32 → Int32 → Rho → Option (Int32 × Rho)) (hk4 : ∀ (x2 : Int32) (x3 : Int32) (r : Rho) (H : Heap) (locs : List Loc) (ls : Array Slot), w_W G M r s H locs → lv_has ls 5 [(0, .ref (g_r G)), (1, .int a0), (2, .int x2), (3, .int x3)] → W p l e rm_R_goes s m args below meth c H locs 0 0 (PQ G below args s rm_R_goes.cells rm_R_goes.slots (fun z => (.inl (some (.int z.1)), M, z.2)) (k4 x2 x3 r)) (F0 m 4 ls [])) (n : Nat) (x2 : Int32) (x3 : Int32) (x4 : Int32) (r : Rho) (H : Heap) (locs : List Loc) (ls : Array Slot), w_W G M r s H locs → lv_has ls 5 [(0, .ref (g_r G)), (1, .int a0), (2, .int x2), (3, .int x3), (4, .int x4)] → W p l e rm_R_goes s m args below meth c H locs 0 0 (PQ G below args s rm_R_goes.cells rm_R_goes.slots (fun z => (.inl (some (.int z.1)), M, z.2)) (f_R_goes_12 N a0 k4 n x2 x3 x4 r)) (F0 m 12 ls []) := by
    intro k4 hk4 n
    induction n with
    | zero => intros; exact W_none
    | succ n ih =>
      intro x2 x3 x4 r H locs ls hw hl
      rw [f_R_goes_12]
      refine lv_iload hx hb dX12_goes_12 (lv_at hl 4 rfl) ?_
      refine lv_aload_n hx hb dX12_goes_14 rfl (lv_at hl 0 rfl) ?_
      refine rx_getA E hw on kF_R_7_11 (by decide) dX12_goes_15 ?_
      refine lv_bipush (v := 6) hx hb dX12_goes_18 (by decide) ?_
      refine rx_iald E hw on (by decide) dX12_goes_20 (fun v1 => ?_)
      refine cx_icmp_ge (tgt := 49) E dX12_goes_21 (by decide) (fun _ => ?_) (fun _ => ?_)
      · refine lv_aload_n hx hb dX12_goes_49 rfl (lv_at hl 0 rfl) ?_
        refine rx_getA E hw on kF_R_7_11 (by decide) dX12_goes_50 ?_
        refine lv_bipush (v := 7) hx hb dX12_goes_53 (by decide) ?_
        refine lv_dup2_11 hx hb dX12_goes_55 rfl rfl ?_
        refine rx_iald E hw on (by decide) dX12_goes_56 (fun v2 => ?_)
        refine lv_iconst (v := 1) hx hb dX12_goes_57 (by decide) ?_
        refine lv_iadd hx hb dX12_goes_58 ?_
        refine rx_iast E hw on (by decide) dX12_goes_59 (fun r3 H locs hw => ?_)
        refine lv_iinc (v := x3 + 1) (lv' := [(3, .int (x3 + 1)), (0, .ref (g_r G)), (1, .int a0), (2, .int x2), (4, .int x4)]) hx hb dX12_goes_60 hl (k := 3) rfl rfl (by decide) rfl (fun ls hl => ?_)
        refine lv_goto (tgt := 4) hx hb dX12_goes_63 (by decide) ?_
        exact hk4 x2 (x3 + 1) r3 _ _ _ hw (lv_sub hl [1, 2, 3, 0] rfl)
      · refine lv_iload_n hx hb dX12_goes_24 rfl (lv_at hl 2 rfl) ?_
        refine lv_aload_n hx hb dX12_goes_25 rfl (lv_at hl 0 rfl) ?_
        refine lv_aload_n hx hb dX12_goes_26 rfl (lv_at hl 0 rfl) ?_
        refine lv_iload hx hb dX12_goes_27 (lv_at hl 4 rfl) ?_
        refine W_bind fun z4 hz => ?_
        refine w_after (cells1 := 0) (slots1 := 0) (w_runV E kV_R_63 kc_X12_who (t_R_who l hfl G on x4 M r ((fun z => (.inl (some (.int z)), M, r)) z4) (by rw [hz]; rfl)) ⟨Nat.le_of_ble_eq_true rfl, Nat.le_of_ble_eq_true rfl⟩ hw (w_recvR E hw on) rfl hl.1 rfl (Nat.le_of_ble_eq_true rfl) dX12_goes_29 ⟨Nat.le_of_ble_eq_true rfl, Nat.le_of_ble_eq_true rfl⟩) hw rfl (Nat.le_of_ble_eq_true rfl) (Nat.le_of_ble_eq_true rfl) (fun H locs hw => ?_)
        refine W.eq (g2 := F0 m 32 ls [.int z4, .ref (g_r G), .int x2]) rfl ?_
        have hw : w_W G M r s H locs := hw
        refine lv_aload_n hx hb dX12_goes_32 rfl (lv_at hl 0 rfl) ?_
        refine lv_iload hx hb dX12_goes_33 (lv_at hl 4 rfl) ?_
        refine W_bind fun z5 hz => ?_
        refine w_after (cells1 := 0) (slots1 := 0) (w_runV E kV_R_67 kc_X12_whom (t_R_whom l hfl G on x4 M r ((fun z => (.inl (some (.int z)), M, r)) z5) (by rw [hz]; rfl)) ⟨Nat.le_of_ble_eq_true rfl, Nat.le_of_ble_eq_true rfl⟩ hw (w_recvR E hw on) rfl hl.1 rfl (Nat.le_of_ble_eq_true rfl) dX12_goes_35 ⟨Nat.le_of_ble_eq_true rfl, Nat.le_of_ble_eq_true rfl⟩) hw rfl (Nat.le_of_ble_eq_true rfl) (Nat.le_of_ble_eq_true rfl) (fun H locs hw => ?_)
        refine W.eq (g2 := F0 m 38 ls [.int z5, .int z4, .ref (g_r G), .int x2]) rfl ?_
        have hw : w_W G M r s H locs := hw
        refine W_bind fun z6 hz => ?_
        refine w_after (cells1 := 0) (slots1 := 0) (w_runV E kV_R_299 kc_X12_meeting (t_R_meeting l hfl G on N z4 z5 M r ((fun z => (.inl (some (.int z.1)), M, z.2)) z6) (by rw [hz]; rfl)) ⟨Nat.le_of_ble_eq_true rfl, Nat.le_of_ble_eq_true rfl⟩ hw (w_recvR E hw on) rfl hl.1 rfl (Nat.le_of_ble_eq_true rfl) dX12_goes_38 ⟨Nat.le_of_ble_eq_true rfl, Nat.le_of_ble_eq_true rfl⟩) hw rfl (Nat.le_of_ble_eq_true rfl) (Nat.le_of_ble_eq_true rfl) (fun H locs hw => ?_)
        refine W.eq (g2 := F0 m 41 ls [.int z6.1, .int x2]) rfl ?_
        have hw : w_W G M z6.2 s H locs := hw
        refine lv_iadd hx hb dX12_goes_41 ?_
        refine lv_istore_n (lv' := [(2, .int (x2 + z6.1)), (0, .ref (g_r G)), (1, .int a0), (3, .int x3), (4, .int x4)]) hx hb dX12_goes_42 rfl hl (by decide) rfl (fun ls hl => ?_)
        refine lv_iinc (v := x4 + 1) (lv' := [(4, .int (x4 + 1)), (2, .int (x2 + z6.1)), (0, .ref (g_r G)), (1, .int a0), (3, .int x3)]) hx hb dX12_goes_43 hl (k := 4) rfl rfl (by decide) rfl (fun ls hl => ?_)
        refine lv_goto (tgt := 12) hx hb dX12_goes_46 (by decide) ?_
        exact ih (x2 + z6.1) x3 (x4 + 1) z6.2 _ _ _ hw (lv_sub hl [2, 3, 1, 4, 0] rfl)
  have w4 : ∀ (n : Nat) (x2 : Int32) (x3 : Int32) (r : Rho) (H : Heap) (locs : List Loc) (ls : Array Slot), w_W G M r s H locs → lv_has ls 5 [(0, .ref (g_r G)), (1, .int a0), (2, .int x2), (3, .int x3)] → W p l e rm_R_goes s m args below meth c H locs 0 0 (PQ G below args s rm_R_goes.cells rm_R_goes.slots (fun z => (.inl (some (.int z.1)), M, z.2)) (f_R_goes_4 N a0 n x2 x3 r)) (F0 m 4 ls []) := by
    intro n
    induction n with
    | zero => intros; exact W_none
    | succ n ih =>
      intro x2 x3 r H locs ls hw hl
      rw [f_R_goes_4]
      refine lv_iload_n hx hb dX12_goes_4 rfl (lv_at hl 3 rfl) ?_
      refine lv_iload_n hx hb dX12_goes_5 rfl (lv_at hl 1 rfl) ?_
      refine cx_icmp_ge (tgt := 66) E dX12_goes_6 (by decide) (fun _ => ?_) (fun _ => ?_)
      · refine lv_iload_n hx hb dX12_goes_66 rfl (lv_at hl 2 rfl) ?_
        exact p_iret E hw hr (Nat.le_of_ble_eq_true rfl) (Nat.le_of_ble_eq_true rfl) rfl dX12_goes_67
      · refine lv_iconst (v := 0) hx hb dX12_goes_9 (by decide) ?_
        refine lv_istore (lv' := [(4, .int 0), (0, .ref (g_r G)), (1, .int a0), (2, .int x2), (3, .int x3)]) hx hb dX12_goes_10 hl (by decide) rfl (fun ls hl => ?_)
        exact w12 (f_R_goes_4 N a0 n) ih N x2 x3 0 r _ _ _ hw (lv_sub hl [1, 2, 3, 4, 0] rfl)
  unfold f_R_goes
  refine lv_iconst (v := 0) hx hb dX12_goes_0 (by decide) ?_
  refine lv_istore_n (lv' := [(2, .int 0), (0, .ref (g_r G)), (1, .int a0)]) hx hb dX12_goes_1 rfl hl (by decide) rfl (fun ls hl => ?_)
  refine lv_iconst (v := 0) hx hb dX12_goes_2 (by decide) ?_
  refine lv_istore_n (lv' := [(3, .int 0), (2, .int 0), (0, .ref (g_r G)), (1, .int a0)]) hx hb dX12_goes_3 rfl hl (by decide) rfl (fun ls hl => ?_)
  exact w4  N 0 0 r _ _ _ hw (lv_sub hl [2, 3, 1, 0] rfl)
set_option maxHeartbeats 4000000 in
set_option maxRecDepth 100000 in
theorem t_R_rounds (l : Launch) (hfl : l.stackTraces = false) (G : wG) (on : g_on G = true) (N : Nat) (a0 : Int32) (M : Mem) (r : Rho) : Ctr l yX12_rounds (wWs yX12_rounds cX12_rounds 2 (some .int)) rm_R_rounds rm_R_rounds.cells rm_R_rounds.slots G [.ref (g_r G), .int a0] M r ((f_R_rounds N a0 r).map (fun z => (.inl (some (.int z.1)), M, z.2))) := by
  refine Ctr.ofF (own := "CheekTownModel") (by decide +kernel) hfl rfl (Nat.le_of_ble_eq_true rfl) (fun p e s m args below meth c E hno hr hnm hw ls hl => ?_)
  obtain ⟨hx, hb, hts, hown, hml, hTT, -⟩ := id E
  have hl : lv_has ls 2 [(0, .ref (g_r G)), (1, .int a0)] := hl
  obtain ⟨H, hH⟩ : ∃ H, H = s.heap := ⟨_, rfl⟩
  obtain ⟨locs, hlo⟩ : ∃ L : List Loc, L = [] := ⟨_, rfl⟩
  rw [← hH, ← hlo]
  rw [← hlo] at hw
  replace hw : w_W G M r s H locs := by rw [hH]; exact hw
  have w16 : ∀ (y1 : Int32) (r : Rho) (H : Heap) (locs : List Loc) (ls : Array Slot), w_W G M r s H locs → lv_has ls 2 [(0, .ref (g_r G)), (1, .int a0)] → W p l e rm_R_rounds s m args below meth c H locs 0 0 (PQ G below args s rm_R_rounds.cells rm_R_rounds.slots (fun z => (.inl (some (.int z.1)), M, z.2)) (f_R_rounds_16 N a0 y1 r)) (F0 m 16 ls [.int y1, .ref (g_r G)]) := by
    intro y1 r H locs ls hw hl
    unfold f_R_rounds_16
    refine rx_putI E hw on kF_R_56_11 (by decide) kT_11_0 dX12_rounds_16 (fun H locs hw => ?_)
    refine lv_aload_n hx hb dX12_rounds_19 rfl (lv_at hl 0 rfl) ?_
    refine rx_getI E hw on kF_R_56_11 (by decide) dX12_rounds_20 ?_
    refine cx_if_le (tgt := 28) E dX12_rounds_23 (by decide) (fun _ => ?_) (fun _ => ?_)
    · refine lv_aload_n hx hb dX12_rounds_28 rfl (lv_at hl 0 rfl) ?_
      refine W_bind fun z2 hz => ?_
      refine w_after (cells1 := 0) (slots1 := 0) (w_runV E kV_R_296 kc_X12_remembers (t_R_remembers l hfl G on N M (r_set r 0 y1) ((fun z => (.inl none, M, z)) z2) (by rw [hz]; rfl)) ⟨Nat.le_of_ble_eq_true rfl, Nat.le_of_ble_eq_true rfl⟩ hw (w_recvR E hw on) rfl hl.1 rfl (Nat.le_of_ble_eq_true rfl) dX12_rounds_29 ⟨Nat.le_of_ble_eq_true rfl, Nat.le_of_ble_eq_true rfl⟩) hw rfl (Nat.le_of_ble_eq_true rfl) (Nat.le_of_ble_eq_true rfl) (fun H locs hw => ?_)
      refine W.eq (g2 := F0 m 32 ls []) rfl ?_
      have hw : w_W G M z2 s H locs := hw
      refine lv_aload_n hx hb dX12_rounds_32 rfl (lv_at hl 0 rfl) ?_
      refine lv_iload_n hx hb dX12_rounds_33 rfl (lv_at hl 1 rfl) ?_
      refine W_bind fun z3 hz => ?_
      refine w_after (cells1 := 0) (slots1 := 0) (w_runV E kV_R_302 kc_X12_goes (t_R_goes l hfl G on N a0 M z2 ((fun z => (.inl (some (.int z.1)), M, z.2)) z3) (by rw [hz]; rfl)) ⟨Nat.le_of_ble_eq_true rfl, Nat.le_of_ble_eq_true rfl⟩ hw (w_recvR E hw on) rfl hl.1 rfl (Nat.le_of_ble_eq_true rfl) dX12_rounds_34 ⟨Nat.le_of_ble_eq_true rfl, Nat.le_of_ble_eq_true rfl⟩) hw rfl (Nat.le_of_ble_eq_true rfl) (Nat.le_of_ble_eq_true rfl) (fun H locs hw => ?_)
      refine W.eq (g2 := F0 m 37 ls [.int z3.1]) rfl ?_
      have hw : w_W G M z3.2 s H locs := hw
      exact p_iret E hw hr (Nat.le_of_ble_eq_true rfl) (Nat.le_of_ble_eq_true rfl) rfl dX12_rounds_37
    · refine lv_iconst (v := 0) hx hb dX12_rounds_26 (by decide) ?_
      exact p_iret E hw hr (Nat.le_of_ble_eq_true rfl) (Nat.le_of_ble_eq_true rfl) rfl dX12_rounds_27
  unfold f_R_rounds
  refine lv_aload_n hx hb dX12_rounds_0 rfl (lv_at hl 0 rfl) ?_
  refine lv_iload_n hx hb dX12_rounds_1 rfl (lv_at hl 1 rfl) ?_
  refine lv_iconst (v := 1) hx hb dX12_rounds_2 (by decide) ?_
  refine lv_bipush (v := 50) hx hb dX12_rounds_3 (by decide) ?_
  refine W_bind fun z1 hz => ?_
  refine w_after (cells1 := 0) (slots1 := 0) (w_runS E kS_R_59 kc_X12_isIn (t_R_isIn l hfl G a0 1 50 M r ((fun z => (.inl (some (.int z)), M, r)) z1) (by rw [hz]; rfl)) ⟨Nat.le_of_ble_eq_true rfl, Nat.le_of_ble_eq_true rfl⟩ hw rfl hl.1 rfl (Nat.le_of_ble_eq_true rfl) dX12_rounds_5 ⟨Nat.le_of_ble_eq_true rfl, Nat.le_of_ble_eq_true rfl⟩) hw rfl (Nat.le_of_ble_eq_true rfl) (Nat.le_of_ble_eq_true rfl) (fun H locs hw => ?_)
  refine W.eq (g2 := F0 m 8 ls [.int z1, .ref (g_r G)]) rfl ?_
  have hw : w_W G M r s H locs := hw
  refine cx_if_ne (tgt := 15) E dX12_rounds_8 (by decide) (fun _ => ?_) (fun _ => ?_)
  · refine lv_iconst (v := 0) hx hb dX12_rounds_15 (by decide) ?_
    exact w16  0 r _ _ _ hw (lv_sub hl [0, 1] rfl)
  · refine lv_iconst (v := 1) hx hb dX12_rounds_11 (by decide) ?_
    refine lv_goto (tgt := 16) hx hb dX12_rounds_12 (by decide) ?_
    exact w16  1 r _ _ _ hw (lv_sub hl [0, 1] rfl)
set_option maxHeartbeats 4000000 in
set_option maxRecDepth 100000 in
theorem t_R_own (l : Launch) (hfl : l.stackTraces = false) (G : wG) (on : g_on G = true) (N : Nat) (a0 : Int32) (a1 : Int32) (M : Mem) (r : Rho) : Ctr l yX12_own (wWs yX12_own cX12_own 4 (some .int)) rm_R_own rm_R_own.cells rm_R_own.slots G [.ref (g_r G), .int a0, .int a1] M r ((f_R_own N a0 a1 r).map (fun z => (.inl (some (.int z.1)), M, z.2))) := by
  refine Ctr.ofF (own := "CheekTownModel") (by decide +kernel) hfl rfl (Nat.le_of_ble_eq_true rfl) (fun p e s m args below meth c E hno hr hnm hw ls hl => ?_)
  obtain ⟨hx, hb, hts, hown, hml, hTT, -⟩ := id E
  have hl : lv_has ls 4 [(0, .ref (g_r G)), (1, .int a0), (2, .int a1)] := hl
  obtain ⟨H, hH⟩ : ∃ H, H = s.heap := ⟨_, rfl⟩
  obtain ⟨locs, hlo⟩ : ∃ L : List Loc, L = [] := ⟨_, rfl⟩
  rw [← hH, ← hlo]
  rw [← hlo] at hw
  replace hw : w_W G M r s H locs := by rw [hH]; exact hw
  have w21 : ∀ (y1 : Int32) (r : Rho) (H : Heap) (locs : List Loc) (ls : Array Slot), w_W G M r s H locs → lv_has ls 4 [(0, .ref (g_r G)), (1, .int a0), (2, .int a1)] → W p l e rm_R_own s m args below meth c H locs 0 0 (PQ G below args s rm_R_own.cells rm_R_own.slots (fun z => (.inl (some (.int z.1)), M, z.2)) (f_R_own_21 N a0 a1 y1 r)) (F0 m 21 ls [.int y1, .ref (g_r G)]) := by
    intro y1 r H locs ls hw hl
    unfold f_R_own_21
    refine rx_putI E hw on kF_R_56_11 (by decide) kT_11_0 dX12_own_21 (fun H locs hw => ?_)
    refine lv_aload_n hx hb dX12_own_24 rfl (lv_at hl 0 rfl) ?_
    refine rx_getI E hw on kF_R_56_11 (by decide) dX12_own_25 ?_
    refine cx_if_le (tgt := 33) E dX12_own_28 (by decide) (fun _ => ?_) (fun _ => ?_)
    · refine lv_aload_n hx hb dX12_own_33 rfl (lv_at hl 0 rfl) ?_
      refine W_bind fun z3 hz => ?_
      refine w_after (cells1 := 0) (slots1 := 0) (w_runV E kV_R_296 kc_X12_remembers (t_R_remembers l hfl G on N M (r_set r 0 y1) ((fun z => (.inl none, M, z)) z3) (by rw [hz]; rfl)) ⟨Nat.le_of_ble_eq_true rfl, Nat.le_of_ble_eq_true rfl⟩ hw (w_recvR E hw on) rfl hl.1 rfl (Nat.le_of_ble_eq_true rfl) dX12_own_34 ⟨Nat.le_of_ble_eq_true rfl, Nat.le_of_ble_eq_true rfl⟩) hw rfl (Nat.le_of_ble_eq_true rfl) (Nat.le_of_ble_eq_true rfl) (fun H locs hw => ?_)
      refine W.eq (g2 := F0 m 37 ls []) rfl ?_
      have hw : w_W G M z3 s H locs := hw
      refine lv_aload_n hx hb dX12_own_37 rfl (lv_at hl 0 rfl) ?_
      refine lv_iload_n hx hb dX12_own_38 rfl (lv_at hl 1 rfl) ?_
      refine lv_iconst (v := 1) hx hb dX12_own_39 (by decide) ?_
      refine W_bind fun z4 hz => ?_
      refine w_after (cells1 := 0) (slots1 := 0) (w_runV E kV_R_257 kc_X12_of (t_R_of l hfl G on a0 1 M z3 ((fun z => (.inl (some (.int z)), M, z3)) z4) (by rw [hz]; rfl)) ⟨Nat.le_of_ble_eq_true rfl, Nat.le_of_ble_eq_true rfl⟩ hw (w_recvR E hw on) rfl hl.1 rfl (Nat.le_of_ble_eq_true rfl) dX12_own_40 ⟨Nat.le_of_ble_eq_true rfl, Nat.le_of_ble_eq_true rfl⟩) hw rfl (Nat.le_of_ble_eq_true rfl) (Nat.le_of_ble_eq_true rfl) (fun H locs hw => ?_)
      refine W.eq (g2 := F0 m 43 ls [.int z4]) rfl ?_
      have hw : w_W G M z3 s H locs := hw
      refine lv_istore_n (lv' := [(3, .int z4), (0, .ref (g_r G)), (1, .int a0), (2, .int a1)]) hx hb dX12_own_43 rfl hl (by decide) rfl (fun ls hl => ?_)
      refine lv_aload_n hx hb dX12_own_44 rfl (lv_at hl 1 rfl) ?_
      refine lv_iload_n hx hb dX12_own_45 rfl (lv_at hl 2 rfl) ?_
      refine lv_iconst (v := 1) hx hb dX12_own_46 (by decide) ?_
      refine lv_iload_n hx hb dX12_own_47 rfl (lv_at hl 3 rfl) ?_
      refine W_bind fun z5 hz => ?_
      refine w_after (cells1 := 0) (slots1 := 0) (w_runV E kV_R_141 kc_X12_has (t_R_has l hfl G on a0 1 a1 M z3 ((fun z => (.inl none, M, z)) z5) (by rw [hz]; rfl)) ⟨Nat.le_of_ble_eq_true rfl, Nat.le_of_ble_eq_true rfl⟩ hw (w_recvR E hw on) rfl hl.1 rfl (Nat.le_of_ble_eq_true rfl) dX12_own_48 ⟨Nat.le_of_ble_eq_true rfl, Nat.le_of_ble_eq_true rfl⟩) hw rfl (Nat.le_of_ble_eq_true rfl) (Nat.le_of_ble_eq_true rfl) (fun H locs hw => ?_)
      refine W.eq (g2 := F0 m 51 ls []) rfl ?_
      have hw : w_W G M z5 s H locs := hw
      refine lv_iload_n hx hb dX12_own_51 rfl (lv_at hl 0 rfl) ?_
      exact p_iret E hw hr (Nat.le_of_ble_eq_true rfl) (Nat.le_of_ble_eq_true rfl) rfl dX12_own_52
    · refine lv_iconst (v := 0) hx hb dX12_own_31 (by decide) ?_
      exact p_iret E hw hr (Nat.le_of_ble_eq_true rfl) (Nat.le_of_ble_eq_true rfl) rfl dX12_own_32
  have w16 : ∀ (r : Rho) (H : Heap) (locs : List Loc) (ls : Array Slot), w_W G M r s H locs → lv_has ls 4 [(0, .ref (g_r G)), (1, .int a0), (2, .int a1)] → W p l e rm_R_own s m args below meth c H locs 0 0 (PQ G below args s rm_R_own.cells rm_R_own.slots (fun z => (.inl (some (.int z.1)), M, z.2)) (f_R_own_16 N a0 a1 r)) (F0 m 16 ls [.ref (g_r G)]) := by
    intro r H locs ls hw hl
    unfold f_R_own_16
    refine lv_iconst (v := 1) hx hb dX12_own_16 (by decide) ?_
    refine lv_goto (tgt := 21) hx hb dX12_own_17 (by decide) ?_
    exact w21  1 r _ _ _ hw (lv_sub hl [0, 1, 2] rfl)
  unfold f_R_own
  refine lv_aload_n hx hb dX12_own_0 rfl (lv_at hl 0 rfl) ?_
  refine lv_aload_n hx hb dX12_own_1 rfl (lv_at hl 0 rfl) ?_
  refine lv_iload_n hx hb dX12_own_2 rfl (lv_at hl 1 rfl) ?_
  refine W_bind fun z1 hz => ?_
  refine w_after (cells1 := 0) (slots1 := 0) (w_runV E kV_R_271 kc_X12_isPerson (t_R_isPerson l hfl G on a0 M r ((fun z => (.inl (some (.int z)), M, r)) z1) (by rw [hz]; rfl)) ⟨Nat.le_of_ble_eq_true rfl, Nat.le_of_ble_eq_true rfl⟩ hw (w_recvR E hw on) rfl hl.1 rfl (Nat.le_of_ble_eq_true rfl) dX12_own_3 ⟨Nat.le_of_ble_eq_true rfl, Nat.le_of_ble_eq_true rfl⟩) hw rfl (Nat.le_of_ble_eq_true rfl) (Nat.le_of_ble_eq_true rfl) (fun H locs hw => ?_)
  refine W.eq (g2 := F0 m 6 ls [.int z1, .ref (g_r G)]) rfl ?_
  have hw : w_W G M r s H locs := hw
  refine cx_if_eq (tgt := 16) E dX12_own_6 (by decide) (fun _ => ?_) (fun _ => ?_)
  · exact w16  r _ _ _ hw (lv_sub hl [0, 1, 2] rfl)
  · refine lv_iload_n hx hb dX12_own_9 rfl (lv_at hl 2 rfl) ?_
    refine W_bind fun z2 hz => ?_
    refine w_after (cells1 := 0) (slots1 := 0) (w_runS E kS_R_260 kc_X12_isCode (t_R_isCode l hfl G a1 M r ((fun z => (.inl (some (.int z)), M, r)) z2) (by rw [hz]; rfl)) ⟨Nat.le_of_ble_eq_true rfl, Nat.le_of_ble_eq_true rfl⟩ hw rfl hl.1 rfl (Nat.le_of_ble_eq_true rfl) dX12_own_10 ⟨Nat.le_of_ble_eq_true rfl, Nat.le_of_ble_eq_true rfl⟩) hw rfl (Nat.le_of_ble_eq_true rfl) (Nat.le_of_ble_eq_true rfl) (fun H locs hw => ?_)
    refine W.eq (g2 := F0 m 13 ls [.int z2, .ref (g_r G)]) rfl ?_
    have hw : w_W G M r s H locs := hw
    refine cx_if_ne (tgt := 20) E dX12_own_13 (by decide) (fun _ => ?_) (fun _ => ?_)
    · refine lv_iconst (v := 0) hx hb dX12_own_20 (by decide) ?_
      exact w21  0 r _ _ _ hw (lv_sub hl [0, 1, 2] rfl)
    · exact w16  r _ _ _ hw (lv_sub hl [0, 1, 2] rfl)
set_option maxHeartbeats 4000000 in
set_option maxRecDepth 100000 in
theorem t_R_cold (l : Launch) (hfl : l.stackTraces = false) (G : wG) (on : g_on G = true) (N : Nat) (a0 : Int32) (a1 : Int32) (M : Mem) (r : Rho) : Ctr l yX12_cold (wWs yX12_cold cX12_cold 4 (some .boolean)) rm_R_cold rm_R_cold.cells rm_R_cold.slots G [.ref (g_r G), .int a0, .int a1] M r ((f_R_cold N a0 a1 r).map (fun z => (.inl (some (.int z.1)), M, z.2))) := by
  refine Ctr.ofF (own := "CheekTownModel") (by decide +kernel) hfl rfl (Nat.le_of_ble_eq_true rfl) (fun p e s m args below meth c E hno hr hnm hw ls hl => ?_)
  obtain ⟨hx, hb, hts, hown, hml, hTT, -⟩ := id E
  have hl : lv_has ls 4 [(0, .ref (g_r G)), (1, .int a0), (2, .int a1)] := hl
  obtain ⟨H, hH⟩ : ∃ H, H = s.heap := ⟨_, rfl⟩
  obtain ⟨locs, hlo⟩ : ∃ L : List Loc, L = [] := ⟨_, rfl⟩
  rw [← hH, ← hlo]
  rw [← hlo] at hw
  replace hw : w_W G M r s H locs := by rw [hH]; exact hw
  have w58 : ∀ (x3 : Int32) (y1 : Int32) (y2 : Int32) (y3 : Int32) (r : Rho) (H : Heap) (locs : List Loc) (ls : Array Slot), w_W G M r s H locs → lv_has ls 4 [(3, .int x3)] → W p l e rm_R_cold s m args below meth c H locs 0 0 (PQ G below args s rm_R_cold.cells rm_R_cold.slots (fun z => (.inl (some (.int z.1)), M, z.2)) (f_R_cold_58 N a0 a1 x3 y1 y2 y3 r)) (F0 m 58 ls [.int y3, .int y2, .int y1, .ref (g_r G)]) := by
    intro x3 y1 y2 y3 r H locs ls hw hl
    unfold f_R_cold_58
    refine W_bind fun z4 hz => ?_
    refine w_after (cells1 := 0) (slots1 := 0) (w_runV E kV_R_141 kc_X12_has (t_R_has l hfl G on y1 y2 y3 M r ((fun z => (.inl none, M, z)) z4) (by rw [hz]; rfl)) ⟨Nat.le_of_ble_eq_true rfl, Nat.le_of_ble_eq_true rfl⟩ hw (w_recvR E hw on) rfl hl.1 rfl (Nat.le_of_ble_eq_true rfl) dX12_cold_58 ⟨Nat.le_of_ble_eq_true rfl, Nat.le_of_ble_eq_true rfl⟩) hw rfl (Nat.le_of_ble_eq_true rfl) (Nat.le_of_ble_eq_true rfl) (fun H locs hw => ?_)
    refine W.eq (g2 := F0 m 61 ls []) rfl ?_
    have hw : w_W G M z4 s H locs := hw
    refine lv_iload_n hx hb dX12_cold_61 rfl (lv_at hl 0 rfl) ?_
    refine W_bind fun z5 hz => ?_
    obtain ⟨rfl, hz0⟩ := zg_ok hz
    exact p_zret E hw hr hz0 (Nat.le_of_ble_eq_true rfl) (Nat.le_of_ble_eq_true rfl) rfl dX12_cold_62
  have w45 : ∀ (y0 : Int32) (r : Rho) (H : Heap) (locs : List Loc) (ls : Array Slot), w_W G M r s H locs → lv_has ls 4 [(0, .ref (g_r G)), (1, .int a0), (2, .int a1)] → W p l e rm_R_cold s m args below meth c H locs 0 0 (PQ G below args s rm_R_cold.cells rm_R_cold.slots (fun z => (.inl (some (.int z.1)), M, z.2)) (f_R_cold_45 N a0 a1 y0 r)) (F0 m 45 ls [.int y0]) := by
    intro y0 r H locs ls hw hl
    unfold f_R_cold_45
    refine lv_istore_n (lv' := [(3, .int y0), (0, .ref (g_r G)), (1, .int a0), (2, .int a1)]) hx hb dX12_cold_45 rfl hl (by decide) rfl (fun ls hl => ?_)
    refine lv_aload_n hx hb dX12_cold_46 rfl (lv_at hl 1 rfl) ?_
    refine lv_iload_n hx hb dX12_cold_47 rfl (lv_at hl 2 rfl) ?_
    refine lv_iconst (v := 4) hx hb dX12_cold_48 (by decide) ?_
    refine lv_iload_n hx hb dX12_cold_49 rfl (lv_at hl 3 rfl) ?_
    refine cx_if_eq (tgt := 57) E dX12_cold_50 (by decide) (fun _ => ?_) (fun _ => ?_)
    · refine lv_iconst (v := 0) hx hb dX12_cold_57 (by decide) ?_
      exact w58  y0 a0 4 0 r _ _ _ hw (lv_sub hl [0] rfl)
    · refine lv_iconst (v := 1) hx hb dX12_cold_53 (by decide) ?_
      refine lv_goto (tgt := 58) hx hb dX12_cold_54 (by decide) ?_
      exact w58  y0 a0 4 1 r _ _ _ hw (lv_sub hl [0] rfl)
  have w14 : ∀ (y1 : Int32) (r : Rho) (H : Heap) (locs : List Loc) (ls : Array Slot), w_W G M r s H locs → lv_has ls 4 [(0, .ref (g_r G)), (1, .int a0), (2, .int a1)] → W p l e rm_R_cold s m args below meth c H locs 0 0 (PQ G below args s rm_R_cold.cells rm_R_cold.slots (fun z => (.inl (some (.int z.1)), M, z.2)) (f_R_cold_14 N a0 a1 y1 r)) (F0 m 14 ls [.int y1, .ref (g_r G)]) := by
    intro y1 r H locs ls hw hl
    unfold f_R_cold_14
    refine rx_putI E hw on kF_R_56_11 (by decide) kT_11_0 dX12_cold_14 (fun H locs hw => ?_)
    refine lv_aload_n hx hb dX12_cold_17 rfl (lv_at hl 0 rfl) ?_
    refine rx_getI E hw on kF_R_56_11 (by decide) dX12_cold_18 ?_
    refine cx_if_le (tgt := 26) E dX12_cold_21 (by decide) (fun _ => ?_) (fun _ => ?_)
    · refine lv_aload_n hx hb dX12_cold_26 rfl (lv_at hl 0 rfl) ?_
      refine W_bind fun z2 hz => ?_
      refine w_after (cells1 := 0) (slots1 := 0) (w_runV E kV_R_296 kc_X12_remembers (t_R_remembers l hfl G on N M (r_set r 0 y1) ((fun z => (.inl none, M, z)) z2) (by rw [hz]; rfl)) ⟨Nat.le_of_ble_eq_true rfl, Nat.le_of_ble_eq_true rfl⟩ hw (w_recvR E hw on) rfl hl.1 rfl (Nat.le_of_ble_eq_true rfl) dX12_cold_27 ⟨Nat.le_of_ble_eq_true rfl, Nat.le_of_ble_eq_true rfl⟩) hw rfl (Nat.le_of_ble_eq_true rfl) (Nat.le_of_ble_eq_true rfl) (fun H locs hw => ?_)
      refine W.eq (g2 := F0 m 30 ls []) rfl ?_
      have hw : w_W G M z2 s H locs := hw
      refine lv_aload_n hx hb dX12_cold_30 rfl (lv_at hl 0 rfl) ?_
      refine lv_iload_n hx hb dX12_cold_31 rfl (lv_at hl 1 rfl) ?_
      refine lv_iconst (v := 4) hx hb dX12_cold_32 (by decide) ?_
      refine W_bind fun z3 hz => ?_
      refine w_after (cells1 := 0) (slots1 := 0) (w_runV E kV_R_257 kc_X12_of (t_R_of l hfl G on a0 4 M z2 ((fun z => (.inl (some (.int z)), M, z2)) z3) (by rw [hz]; rfl)) ⟨Nat.le_of_ble_eq_true rfl, Nat.le_of_ble_eq_true rfl⟩ hw (w_recvR E hw on) rfl hl.1 rfl (Nat.le_of_ble_eq_true rfl) dX12_cold_33 ⟨Nat.le_of_ble_eq_true rfl, Nat.le_of_ble_eq_true rfl⟩) hw rfl (Nat.le_of_ble_eq_true rfl) (Nat.le_of_ble_eq_true rfl) (fun H locs hw => ?_)
      refine W.eq (g2 := F0 m 36 ls [.int z3]) rfl ?_
      have hw : w_W G M z2 s H locs := hw
      refine lv_iconst (v := 1) hx hb dX12_cold_36 (by decide) ?_
      refine cx_icmp_ne (tgt := 44) E dX12_cold_37 (by decide) (fun _ => ?_) (fun _ => ?_)
      · refine lv_iconst (v := 0) hx hb dX12_cold_44 (by decide) ?_
        exact w45  0 z2 _ _ _ hw (lv_sub hl [0, 1, 2] rfl)
      · refine lv_iconst (v := 1) hx hb dX12_cold_40 (by decide) ?_
        refine lv_goto (tgt := 45) hx hb dX12_cold_41 (by decide) ?_
        exact w45  1 z2 _ _ _ hw (lv_sub hl [0, 1, 2] rfl)
    · refine lv_iconst (v := 0) hx hb dX12_cold_24 (by decide) ?_
      exact p_zret E hw hr (by decide) (Nat.le_of_ble_eq_true rfl) (Nat.le_of_ble_eq_true rfl) rfl dX12_cold_25
  unfold f_R_cold
  refine lv_aload_n hx hb dX12_cold_0 rfl (lv_at hl 0 rfl) ?_
  refine lv_aload_n hx hb dX12_cold_1 rfl (lv_at hl 0 rfl) ?_
  refine lv_iload_n hx hb dX12_cold_2 rfl (lv_at hl 1 rfl) ?_
  refine W_bind fun z1 hz => ?_
  refine w_after (cells1 := 0) (slots1 := 0) (w_runV E kV_R_271 kc_X12_isPerson (t_R_isPerson l hfl G on a0 M r ((fun z => (.inl (some (.int z)), M, r)) z1) (by rw [hz]; rfl)) ⟨Nat.le_of_ble_eq_true rfl, Nat.le_of_ble_eq_true rfl⟩ hw (w_recvR E hw on) rfl hl.1 rfl (Nat.le_of_ble_eq_true rfl) dX12_cold_3 ⟨Nat.le_of_ble_eq_true rfl, Nat.le_of_ble_eq_true rfl⟩) hw rfl (Nat.le_of_ble_eq_true rfl) (Nat.le_of_ble_eq_true rfl) (fun H locs hw => ?_)
  refine W.eq (g2 := F0 m 6 ls [.int z1, .ref (g_r G)]) rfl ?_
  have hw : w_W G M r s H locs := hw
  refine cx_if_ne (tgt := 13) E dX12_cold_6 (by decide) (fun _ => ?_) (fun _ => ?_)
  · refine lv_iconst (v := 0) hx hb dX12_cold_13 (by decide) ?_
    exact w14  0 r _ _ _ hw (lv_sub hl [0, 1, 2] rfl)
  · refine lv_iconst (v := 1) hx hb dX12_cold_9 (by decide) ?_
    refine lv_goto (tgt := 14) hx hb dX12_cold_10 (by decide) ?_
    exact w14  1 r _ _ _ hw (lv_sub hl [0, 1, 2] rfl)
set_option maxHeartbeats 4000000 in
set_option maxRecDepth 100000 in
theorem t_R_ties (l : Launch) (hfl : l.stackTraces = false) (G : wG) (on : g_on G = true) (N : Nat) (a0 : Int32) (a1 : Int32) (M : Mem) (r : Rho) : Ctr l yX12_ties (wWs yX12_ties cX12_ties 3 (some .int)) rm_R_ties rm_R_ties.cells rm_R_ties.slots G [.ref (g_r G), .int a0, .int a1] M r ((f_R_ties N a0 a1 r).map (fun z => (.inl (some (.int z.1)), M, z.2))) := by
  refine Ctr.ofF (own := "CheekTownModel") (by decide +kernel) hfl rfl (Nat.le_of_ble_eq_true rfl) (fun p e s m args below meth c E hno hr hnm hw ls hl => ?_)
  obtain ⟨hx, hb, hts, hown, hml, hTT, -⟩ := id E
  have hl : lv_has ls 3 [(0, .ref (g_r G)), (1, .int a0), (2, .int a1)] := hl
  obtain ⟨H, hH⟩ : ∃ H, H = s.heap := ⟨_, rfl⟩
  obtain ⟨locs, hlo⟩ : ∃ L : List Loc, L = [] := ⟨_, rfl⟩
  rw [← hH, ← hlo]
  rw [← hlo] at hw
  replace hw : w_W G M r s H locs := by rw [hH]; exact hw
  have w49 : ∀ (y1 : Int32) (r : Rho) (H : Heap) (locs : List Loc) (ls : Array Slot), w_W G M r s H locs → lv_has ls 3 [(0, .ref (g_r G)), (1, .int a0), (2, .int a1)] → W p l e rm_R_ties s m args below meth c H locs 0 0 (PQ G below args s rm_R_ties.cells rm_R_ties.slots (fun z => (.inl (some (.int z.1)), M, z.2)) (f_R_ties_49 N a0 a1 y1 r)) (F0 m 49 ls [.int y1, .ref (g_r G)]) := by
    intro y1 r H locs ls hw hl
    unfold f_R_ties_49
    refine rx_putI E hw on kF_R_56_11 (by decide) kT_11_0 dX12_ties_49 (fun H locs hw => ?_)
    refine lv_aload_n hx hb dX12_ties_52 rfl (lv_at hl 0 rfl) ?_
    refine rx_getI E hw on kF_R_56_11 (by decide) dX12_ties_53 ?_
    refine cx_if_le (tgt := 61) E dX12_ties_56 (by decide) (fun _ => ?_) (fun _ => ?_)
    · refine lv_aload_n hx hb dX12_ties_61 rfl (lv_at hl 0 rfl) ?_
      refine W_bind fun z5 hz => ?_
      refine w_after (cells1 := 0) (slots1 := 0) (w_runV E kV_R_296 kc_X12_remembers (t_R_remembers l hfl G on N M (r_set r 0 y1) ((fun z => (.inl none, M, z)) z5) (by rw [hz]; rfl)) ⟨Nat.le_of_ble_eq_true rfl, Nat.le_of_ble_eq_true rfl⟩ hw (w_recvR E hw on) rfl hl.1 rfl (Nat.le_of_ble_eq_true rfl) dX12_ties_62 ⟨Nat.le_of_ble_eq_true rfl, Nat.le_of_ble_eq_true rfl⟩) hw rfl (Nat.le_of_ble_eq_true rfl) (Nat.le_of_ble_eq_true rfl) (fun H locs hw => ?_)
      refine W.eq (g2 := F0 m 65 ls []) rfl ?_
      have hw : w_W G M z5 s H locs := hw
      refine lv_aload_n hx hb dX12_ties_65 rfl (lv_at hl 0 rfl) ?_
      refine lv_iload_n hx hb dX12_ties_66 rfl (lv_at hl 1 rfl) ?_
      refine lv_iload_n hx hb dX12_ties_67 rfl (lv_at hl 2 rfl) ?_
      refine W_bind fun z6 hz => ?_
      refine w_after (cells1 := 0) (slots1 := 0) (w_runV E kV_R_152 kc_X12_binds (t_R_binds l hfl G on a0 a1 M z5 ((fun z => (.inl none, M, z)) z6) (by rw [hz]; rfl)) ⟨Nat.le_of_ble_eq_true rfl, Nat.le_of_ble_eq_true rfl⟩ hw (w_recvR E hw on) rfl hl.1 rfl (Nat.le_of_ble_eq_true rfl) dX12_ties_68 ⟨Nat.le_of_ble_eq_true rfl, Nat.le_of_ble_eq_true rfl⟩) hw rfl (Nat.le_of_ble_eq_true rfl) (Nat.le_of_ble_eq_true rfl) (fun H locs hw => ?_)
      refine W.eq (g2 := F0 m 71 ls []) rfl ?_
      have hw : w_W G M z6 s H locs := hw
      refine lv_aload_n hx hb dX12_ties_71 rfl (lv_at hl 0 rfl) ?_
      refine rx_getA E hw on kF_R_7_11 (by decide) dX12_ties_72 ?_
      refine lv_bipush (v := 6) hx hb dX12_ties_75 (by decide) ?_
      refine rx_iald E hw on (by decide) dX12_ties_77 (fun v7 => ?_)
      refine lv_iconst (v := 1) hx hb dX12_ties_78 (by decide) ?_
      refine lv_isub hx hb dX12_ties_79 ?_
      exact p_iret E hw hr (Nat.le_of_ble_eq_true rfl) (Nat.le_of_ble_eq_true rfl) rfl dX12_ties_80
    · refine lv_iconst (v := 0) hx hb dX12_ties_59 (by decide) ?_
      exact p_iret E hw hr (Nat.le_of_ble_eq_true rfl) (Nat.le_of_ble_eq_true rfl) rfl dX12_ties_60
  unfold f_R_ties
  refine lv_aload_n hx hb dX12_ties_0 rfl (lv_at hl 0 rfl) ?_
  refine lv_aload_n hx hb dX12_ties_1 rfl (lv_at hl 0 rfl) ?_
  refine lv_iload_n hx hb dX12_ties_2 rfl (lv_at hl 1 rfl) ?_
  refine lv_iload_n hx hb dX12_ties_3 rfl (lv_at hl 2 rfl) ?_
  refine W_bind fun z1 hz => ?_
  refine w_after (cells1 := 0) (slots1 := 0) (w_runV E kV_R_277 kc_X12_two (t_R_two l hfl G on a0 a1 M r ((fun z => (.inl (some (.int z)), M, r)) z1) (by rw [hz]; rfl)) ⟨Nat.le_of_ble_eq_true rfl, Nat.le_of_ble_eq_true rfl⟩ hw (w_recvR E hw on) rfl hl.1 rfl (Nat.le_of_ble_eq_true rfl) dX12_ties_4 ⟨Nat.le_of_ble_eq_true rfl, Nat.le_of_ble_eq_true rfl⟩) hw rfl (Nat.le_of_ble_eq_true rfl) (Nat.le_of_ble_eq_true rfl) (fun H locs hw => ?_)
  refine W.eq (g2 := F0 m 7 ls [.int z1, .ref (g_r G)]) rfl ?_
  have hw : w_W G M r s H locs := hw
  refine cx_if_le (tgt := 19) E dX12_ties_7 (by decide) (fun _ => ?_) (fun _ => ?_)
  · refine lv_aload_n hx hb dX12_ties_19 rfl (lv_at hl 0 rfl) ?_
    refine lv_iload_n hx hb dX12_ties_20 rfl (lv_at hl 1 rfl) ?_
    refine lv_iload_n hx hb dX12_ties_21 rfl (lv_at hl 2 rfl) ?_
    refine W_bind fun z2 hz => ?_
    refine w_after (cells1 := 0) (slots1 := 0) (w_runV E kV_R_148 kc_X12_areTied (t_R_areTied l hfl G on N a0 a1 M r ((fun z => (.inl (some (.int z)), M, r)) z2) (by rw [hz]; rfl)) ⟨Nat.le_of_ble_eq_true rfl, Nat.le_of_ble_eq_true rfl⟩ hw (w_recvR E hw on) rfl hl.1 rfl (Nat.le_of_ble_eq_true rfl) dX12_ties_22 ⟨Nat.le_of_ble_eq_true rfl, Nat.le_of_ble_eq_true rfl⟩) hw rfl (Nat.le_of_ble_eq_true rfl) (Nat.le_of_ble_eq_true rfl) (fun H locs hw => ?_)
    refine W.eq (g2 := F0 m 25 ls [.int z2, .ref (g_r G)]) rfl ?_
    have hw : w_W G M r s H locs := hw
    refine cx_if_eq (tgt := 32) E dX12_ties_25 (by decide) (fun _ => ?_) (fun _ => ?_)
    · refine lv_aload_n hx hb dX12_ties_32 rfl (lv_at hl 0 rfl) ?_
      refine rx_getA E hw on kF_R_7_11 (by decide) dX12_ties_33 ?_
      refine lv_bipush (v := 6) hx hb dX12_ties_36 (by decide) ?_
      refine rx_iald E hw on (by decide) dX12_ties_38 (fun v3 => ?_)
      refine lv_bipush (v := 24) hx hb dX12_ties_39 (by decide) ?_
      refine cx_icmp_ne (tgt := 48) E dX12_ties_41 (by decide) (fun _ => ?_) (fun _ => ?_)
      · refine lv_iconst (v := 0) hx hb dX12_ties_48 (by decide) ?_
        exact w49  0 r _ _ _ hw (lv_sub hl [0, 1, 2] rfl)
      · refine lv_iconst (v := 4) hx hb dX12_ties_44 (by decide) ?_
        refine lv_goto (tgt := 49) hx hb dX12_ties_45 (by decide) ?_
        exact w49  4 r _ _ _ hw (lv_sub hl [0, 1, 2] rfl)
    · refine lv_iconst (v := 3) hx hb dX12_ties_28 (by decide) ?_
      refine lv_goto (tgt := 49) hx hb dX12_ties_29 (by decide) ?_
      exact w49  3 r _ _ _ hw (lv_sub hl [0, 1, 2] rfl)
  · refine lv_aload_n hx hb dX12_ties_10 rfl (lv_at hl 0 rfl) ?_
    refine lv_iload_n hx hb dX12_ties_11 rfl (lv_at hl 1 rfl) ?_
    refine lv_iload_n hx hb dX12_ties_12 rfl (lv_at hl 2 rfl) ?_
    refine W_bind fun z4 hz => ?_
    refine w_after (cells1 := 0) (slots1 := 0) (w_runV E kV_R_277 kc_X12_two (t_R_two l hfl G on a0 a1 M r ((fun z => (.inl (some (.int z)), M, r)) z4) (by rw [hz]; rfl)) ⟨Nat.le_of_ble_eq_true rfl, Nat.le_of_ble_eq_true rfl⟩ hw (w_recvR E hw on) rfl hl.1 rfl (Nat.le_of_ble_eq_true rfl) dX12_ties_13 ⟨Nat.le_of_ble_eq_true rfl, Nat.le_of_ble_eq_true rfl⟩) hw rfl (Nat.le_of_ble_eq_true rfl) (Nat.le_of_ble_eq_true rfl) (fun H locs hw => ?_)
    refine W.eq (g2 := F0 m 16 ls [.int z4, .ref (g_r G)]) rfl ?_
    have hw : w_W G M r s H locs := hw
    refine lv_goto (tgt := 49) hx hb dX12_ties_16 (by decide) ?_
    exact w49  z4 r _ _ _ hw (lv_sub hl [0, 1, 2] rfl)

