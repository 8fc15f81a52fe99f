set_option maxHeartbeats 4000000 in
set_option maxRecDepth 100000 in
theorem t_R_seed (l : Launch) (hfl : l.stackTraces = false) (G : wG) (on : g_on G = true) (a0 : Int32) (M : Mem) (r : Rho) : Ctr l yX12_seed (wWs yX12_seed cX12_seed 3 (some .int)) rm_R_seed rm_R_seed.cells rm_R_seed.slots G [.ref (g_r G), .int a0] M r ((f_R_seed a0 r).map (fun z => (.inl (some (.int z.1)), M, z.2))) := by
  refine Ctr.ofF (own := "CheekTownModel") (by decide +kernel) hfl rfl (Nat.le_of_ble_eq_true rfl) (fun p e s m args below meth c E hno hr hnm hw ls hl => ?_)
  obtain ⟨hx, hb, hts, hown, hml, hTT, -⟩ := id E
  have hl : lv_has ls 3 [(0, .ref (g_r G)), (1, .int a0)] := hl
  obtain ⟨H, hH⟩ : ∃ H, H = s.heap := ⟨_, rfl⟩
  obtain ⟨locs, hlo⟩ : ∃ L : List Loc, L = [] := ⟨_, rfl⟩
  rw [← hH, ← hlo]
  rw [← hlo] at hw
  replace hw : w_W G M r s H locs := by rw [hH]; exact hw
  unfold f_R_seed
  refine lv_aload_n hx hb dX12_seed_0 rfl (lv_at hl 0 rfl) ?_
  refine lv_iconst (v := 0) hx hb dX12_seed_1 (by decide) ?_
  refine rx_putI E hw on kF_R_56_11 (by decide) kT_11_0 dX12_seed_2 (fun H locs hw => ?_)
  refine lv_aload_n hx hb dX12_seed_5 rfl (lv_at hl 0 rfl) ?_
  refine rx_getA E hw on kF_R_7_11 (by decide) dX12_seed_6 ?_
  refine lv_bipush (v := 16) hx hb dX12_seed_9 (by decide) ?_
  refine rx_iald E hw on (by decide) dX12_seed_11 (fun v1 => ?_)
  refine lv_istore_n (lv' := [(2, .int v1), (0, .ref (g_r G)), (1, .int a0)]) hx hb dX12_seed_12 rfl hl (by decide) rfl (fun ls hl => ?_)
  refine lv_aload_n hx hb dX12_seed_13 rfl (lv_at hl 1 rfl) ?_
  refine rx_getA E hw on kF_R_7_11 (by decide) dX12_seed_14 ?_
  refine lv_bipush (v := 16) hx hb dX12_seed_17 (by decide) ?_
  refine lv_iload_n hx hb dX12_seed_19 rfl (lv_at hl 2 rfl) ?_
  refine rx_iast E hw on (by decide) dX12_seed_20 (fun r2 H locs hw => ?_)
  refine lv_iload_n hx hb dX12_seed_21 rfl (lv_at hl 0 rfl) ?_
  exact p_iret E hw hr (Nat.le_of_ble_eq_true rfl) (Nat.le_of_ble_eq_true rfl) rfl dX12_seed_22
set_option maxHeartbeats 4000000 in
set_option maxRecDepth 100000 in
theorem t_R_undo (l : Launch) (hfl : l.stackTraces = false) (G : wG) (on : g_on G = true) (N : Nat) (M : Mem) (r : Rho) : Ctr l yX12_undo (wWs yX12_undo cX12_undo 2 (some .boolean)) rm_R_undo rm_R_undo.cells rm_R_undo.slots G [.ref (g_r G)] M r ((f_R_undo N r).map (fun z => (.inl (some (.int z.1)), M, z.2))) := by
  refine Ctr.ofF (own := "CheekTownModel") (by decide +kernel) hfl rfl (Nat.le_of_ble_eq_true rfl) (fun p e s m args below meth c E hno hr hnm hw ls hl => ?_)
  obtain ⟨hx, hb, hts, hown, hml, hTT, -⟩ := id E
  have hl : lv_has ls 2 [(0, .ref (g_r G))] := hl
  obtain ⟨H, hH⟩ : ∃ H, H = s.heap := ⟨_, rfl⟩
  obtain ⟨locs, hlo⟩ : ∃ L : List Loc, L = [] := ⟨_, rfl⟩
  rw [← hH, ← hlo]
  rw [← hlo] at hw
  replace hw : w_W G M r s H locs := by rw [hH]; exact hw
  have w26 : ∀ (n : Nat) (x1 : Int32) (r : Rho) (H : Heap) (locs : List Loc) (ls : Array Slot), w_W G M r s H locs → lv_has ls 2 [(0, .ref (g_r G)), (1, .int x1)] → W p l e rm_R_undo s m args below meth c H locs 0 0 (PQ G below args s rm_R_undo.cells rm_R_undo.slots (fun z => (.inl (some (.int z.1)), M, z.2)) (f_R_undo_26 N n x1 r)) (F0 m 26 ls []) := by
    intro n
    induction n with
    | zero => intros; exact W_none
    | succ n ih =>
      intro x1 r H locs ls hw hl
      rw [f_R_undo_26]
      refine lv_iload_n hx hb dX12_undo_26 rfl (lv_at hl 1 rfl) ?_
      refine lv_sipush (v := 900) hx hb dX12_undo_27 (by decide) ?_
      refine cx_icmp_ge (tgt := 60) E dX12_undo_30 (by decide) (fun _ => ?_) (fun _ => ?_)
      · refine lv_iconst (v := 1) hx hb dX12_undo_60 (by decide) ?_
        exact p_zret E hw hr (by decide) (Nat.le_of_ble_eq_true rfl) (Nat.le_of_ble_eq_true rfl) rfl dX12_undo_61
      · refine lv_aload_n hx hb dX12_undo_33 rfl (lv_at hl 0 rfl) ?_
        refine rx_getA E hw on kF_R_7_11 (by decide) dX12_undo_34 ?_
        refine lv_iload_n hx hb dX12_undo_37 rfl (lv_at hl 1 rfl) ?_
        refine lv_aload_n hx hb dX12_undo_38 rfl (lv_at hl 0 rfl) ?_
        refine rx_getA E hw on kF_R_19_11 (by decide) dX12_undo_39 ?_
        refine lv_sipush (v := 900) hx hb dX12_undo_42 (by decide) ?_
        refine lv_aload_n hx hb dX12_undo_45 rfl (lv_at hl 0 rfl) ?_
        refine rx_getI E hw on kF_R_207_11 (by decide) dX12_undo_46 ?_
        refine lv_imul hx hb dX12_undo_49 ?_
        refine lv_iload_n hx hb dX12_undo_50 rfl (lv_at hl 1 rfl) ?_
        refine lv_iadd hx hb dX12_undo_51 ?_
        refine rx_iald E hw on (by decide) dX12_undo_52 (fun v1 => ?_)
        refine rx_iast E hw on (by decide) dX12_undo_53 (fun r2 H locs hw => ?_)
        refine lv_iinc (v := x1 + 1) (lv' := [(1, .int (x1 + 1)), (0, .ref (g_r G))]) hx hb dX12_undo_54 hl (k := 1) rfl rfl (by decide) rfl (fun ls hl => ?_)
        refine lv_goto (tgt := 26) hx hb dX12_undo_57 (by decide) ?_
        exact ih (x1 + 1) r2 _ _ _ hw (lv_sub hl [1, 0] rfl)
  unfold f_R_undo
  refine lv_aload_n hx hb dX12_undo_0 rfl (lv_at hl 0 rfl) ?_
  refine lv_iconst (v := 0) hx hb dX12_undo_1 (by decide) ?_
  refine rx_putI E hw on kF_R_56_11 (by decide) kT_11_0 dX12_undo_2 (fun H locs hw => ?_)
  refine lv_aload_n hx hb dX12_undo_5 rfl (lv_at hl 0 rfl) ?_
  refine rx_getI E hw on kF_R_207_11 (by decide) dX12_undo_6 ?_
  refine cx_if_ne (tgt := 14) E dX12_undo_9 (by decide) (fun _ => ?_) (fun _ => ?_)
  · refine lv_aload_n hx hb dX12_undo_14 rfl (lv_at hl 0 rfl) ?_
    refine lv_dup hx hb dX12_undo_15 rfl ?_
    refine rx_getI E hw on kF_R_207_11 (by decide) dX12_undo_16 ?_
    refine lv_iconst (v := 1) hx hb dX12_undo_19 (by decide) ?_
    refine lv_isub hx hb dX12_undo_20 ?_
    refine rx_putI E hw on kF_R_207_11 (by decide) kT_11_6 dX12_undo_21 (fun H locs hw => ?_)
    refine lv_iconst (v := 0) hx hb dX12_undo_24 (by decide) ?_
    refine lv_istore_n (lv' := [(1, .int 0), (0, .ref (g_r G))]) hx hb dX12_undo_25 rfl hl (by decide) rfl (fun ls hl => ?_)
    exact w26  N 0 (r_set (r_set r 0 0) 6 (((r_set r 0 0).1 6) - 1)) _ _ _ hw (lv_sub hl [1, 0] rfl)
  · refine lv_iconst (v := 0) hx hb dX12_undo_12 (by decide) ?_
    exact p_zret E hw hr (by decide) (Nat.le_of_ble_eq_true rfl) (Nat.le_of_ble_eq_true rfl) rfl dX12_undo_13
set_option maxHeartbeats 4000000 in
set_option maxRecDepth 100000 in
theorem t_R_image (l : Launch) (hfl : l.stackTraces = false) (G : wG) (on : g_on G = true) (N : Nat) (M : Mem) (r : Rho) : Ctr l yX12_image (wWs yX12_image cX12_image 2 none) rm_R_image rm_R_image.cells rm_R_image.slots G [.ref (g_r G)] M r ((f_R_image N r).map (fun z => (.inl none, M, z))) := by
  refine Ctr.ofF (own := "CheekTownModel") (by decide +kernel) hfl rfl (Nat.le_of_ble_eq_true rfl) (fun p e s m args below meth c E hno hr hnm hw ls hl => ?_)
  obtain ⟨hx, hb, hts, hown, hml, hTT, -⟩ := id E
  have hl : lv_has ls 2 [(0, .ref (g_r G))] := hl
  obtain ⟨H, hH⟩ : ∃ H, H = s.heap := ⟨_, rfl⟩
  obtain ⟨locs, hlo⟩ : ∃ L : List Loc, L = [] := ⟨_, rfl⟩
  rw [← hH, ← hlo]
  rw [← hlo] at hw
  replace hw : w_W G M r s H locs := by rw [hH]; exact hw
  have w7 : ∀ (n : Nat) (x1 : Int32) (r : Rho) (H : Heap) (locs : List Loc) (ls : Array Slot), w_W G M r s H locs → lv_has ls 2 [(0, .ref (g_r G)), (1, .int x1)] → W p l e rm_R_image s m args below meth c H locs 0 0 (PQ G below args s rm_R_image.cells rm_R_image.slots (fun z => (.inl none, M, z)) (f_R_image_7 N n x1 r)) (F0 m 7 ls []) := by
    intro n
    induction n with
    | zero => intros; exact W_none
    | succ n ih =>
      intro x1 r H locs ls hw hl
      rw [f_R_image_7]
      refine lv_iload_n hx hb dX12_image_7 rfl (lv_at hl 1 rfl) ?_
      refine lv_sipush (v := 1300) hx hb dX12_image_8 (by decide) ?_
      refine cx_icmp_ge (tgt := 32) E dX12_image_11 (by decide) (fun _ => ?_) (fun _ => ?_)
      · refine lv_aload_n hx hb dX12_image_32 rfl (lv_at hl 0 rfl) ?_
        refine lv_iconst (v := 1) hx hb dX12_image_33 (by decide) ?_
        refine rx_putZ E hw on kF_R_384_11 (by decide) kT_11_3 dX12_image_34 (fun r1 H locs hw => ?_)
        exact p_vret E hw hr (Nat.le_of_ble_eq_true rfl) (Nat.le_of_ble_eq_true rfl) rfl dX12_image_37
      · refine lv_aload_n hx hb dX12_image_14 rfl (lv_at hl 0 rfl) ?_
        refine rx_getA E hw on kF_R_13_11 (by decide) dX12_image_15 ?_
        refine lv_iload_n hx hb dX12_image_18 rfl (lv_at hl 1 rfl) ?_
        refine lv_aload_n hx hb dX12_image_19 rfl (lv_at hl 0 rfl) ?_
        refine rx_getA E hw on kF_R_7_11 (by decide) dX12_image_20 ?_
        refine lv_iload_n hx hb dX12_image_23 rfl (lv_at hl 1 rfl) ?_
        refine rx_iald E hw on (by decide) dX12_image_24 (fun v2 => ?_)
        refine rx_iast E hw on (by decide) dX12_image_25 (fun r3 H locs hw => ?_)
        refine lv_iinc (v := x1 + 1) (lv' := [(1, .int (x1 + 1)), (0, .ref (g_r G))]) hx hb dX12_image_26 hl (k := 1) rfl rfl (by decide) rfl (fun ls hl => ?_)
        refine lv_goto (tgt := 7) hx hb dX12_image_29 (by decide) ?_
        exact ih (x1 + 1) r3 _ _ _ hw (lv_sub hl [1, 0] rfl)
  unfold f_R_image
  refine lv_aload_n hx hb dX12_image_0 rfl (lv_at hl 0 rfl) ?_
  refine lv_iconst (v := 0) hx hb dX12_image_1 (by decide) ?_
  refine rx_putI E hw on kF_R_56_11 (by decide) kT_11_0 dX12_image_2 (fun H locs hw => ?_)
  refine lv_iconst (v := 0) hx hb dX12_image_5 (by decide) ?_
  refine lv_istore_n (lv' := [(1, .int 0), (0, .ref (g_r G))]) hx hb dX12_image_6 rfl hl (by decide) rfl (fun ls hl => ?_)
  exact w7  N 0 (r_set r 0 0) _ _ _ hw (lv_sub hl [1, 0] rfl)
set_option maxHeartbeats 4000000 in
set_option maxRecDepth 100000 in
theorem t_R_back (l : Launch) (hfl : l.stackTraces = false) (G : wG) (on : g_on G = true) (N : Nat) (M : Mem) (r : Rho) : Ctr l yX12_back (wWs yX12_back cX12_back 2 (some .boolean)) rm_R_back rm_R_back.cells rm_R_back.slots G [.ref (g_r G)] M r ((f_R_back N r).map (fun z => (.inl (some (.int z.1)), M, z.2))) := by
  refine Ctr.ofF (own := "CheekTownModel") (by decide +kernel) hfl rfl (Nat.le_of_ble_eq_true rfl) (fun p e s m args below meth c E hno hr hnm hw ls hl => ?_)
  obtain ⟨hx, hb, hts, hown, hml, hTT, -⟩ := id E
  have hl : lv_has ls 2 [(0, .ref (g_r G))] := hl
  obtain ⟨H, hH⟩ : ∃ H, H = s.heap := ⟨_, rfl⟩
  obtain ⟨locs, hlo⟩ : ∃ L : List Loc, L = [] := ⟨_, rfl⟩
  rw [← hH, ← hlo]
  rw [← hlo] at hw
  replace hw : w_W G M r s H locs := by rw [hH]; exact hw
  have w16 : ∀ (n : Nat) (x1 : Int32) (r : Rho) (H : Heap) (locs : List Loc) (ls : Array Slot), w_W G M r s H locs → lv_has ls 2 [(0, .ref (g_r G)), (1, .int x1)] → W p l e rm_R_back s m args below meth c H locs 0 0 (PQ G below args s rm_R_back.cells rm_R_back.slots (fun z => (.inl (some (.int z.1)), M, z.2)) (f_R_back_16 N n x1 r)) (F0 m 16 ls []) := by
    intro n
    induction n with
    | zero => intros; exact W_none
    | succ n ih =>
      intro x1 r H locs ls hw hl
      rw [f_R_back_16]
      refine lv_iload_n hx hb dX12_back_16 rfl (lv_at hl 1 rfl) ?_
      refine lv_sipush (v := 1300) hx hb dX12_back_17 (by decide) ?_
      refine cx_icmp_ge (tgt := 41) E dX12_back_20 (by decide) (fun _ => ?_) (fun _ => ?_)
      · refine lv_aload_n hx hb dX12_back_41 rfl (lv_at hl 0 rfl) ?_
        refine lv_iconst (v := 0) hx hb dX12_back_42 (by decide) ?_
        refine rx_putI E hw on kF_R_207_11 (by decide) kT_11_6 dX12_back_43 (fun H locs hw => ?_)
        refine lv_iconst (v := 1) hx hb dX12_back_46 (by decide) ?_
        exact p_zret E hw hr (by decide) (Nat.le_of_ble_eq_true rfl) (Nat.le_of_ble_eq_true rfl) rfl dX12_back_47
      · refine lv_aload_n hx hb dX12_back_23 rfl (lv_at hl 0 rfl) ?_
        refine rx_getA E hw on kF_R_7_11 (by decide) dX12_back_24 ?_
        refine lv_iload_n hx hb dX12_back_27 rfl (lv_at hl 1 rfl) ?_
        refine lv_aload_n hx hb dX12_back_28 rfl (lv_at hl 0 rfl) ?_
        refine rx_getA E hw on kF_R_13_11 (by decide) dX12_back_29 ?_
        refine lv_iload_n hx hb dX12_back_32 rfl (lv_at hl 1 rfl) ?_
        refine rx_iald E hw on (by decide) dX12_back_33 (fun v1 => ?_)
        refine rx_iast E hw on (by decide) dX12_back_34 (fun r2 H locs hw => ?_)
        refine lv_iinc (v := x1 + 1) (lv' := [(1, .int (x1 + 1)), (0, .ref (g_r G))]) hx hb dX12_back_35 hl (k := 1) rfl rfl (by decide) rfl (fun ls hl => ?_)
        refine lv_goto (tgt := 16) hx hb dX12_back_38 (by decide) ?_
        exact ih (x1 + 1) r2 _ _ _ hw (lv_sub hl [1, 0] rfl)
  unfold f_R_back
  refine lv_aload_n hx hb dX12_back_0 rfl (lv_at hl 0 rfl) ?_
  refine lv_iconst (v := 0) hx hb dX12_back_1 (by decide) ?_
  refine rx_putI E hw on kF_R_56_11 (by decide) kT_11_0 dX12_back_2 (fun H locs hw => ?_)
  refine lv_aload_n hx hb dX12_back_5 rfl (lv_at hl 0 rfl) ?_
  refine rx_getI E hw on kF_R_384_11 (by decide) dX12_back_6 ?_
  refine cx_if_ne (tgt := 14) E dX12_back_9 (by decide) (fun _ => ?_) (fun _ => ?_)
  · refine lv_iconst (v := 0) hx hb dX12_back_14 (by decide) ?_
    refine lv_istore_n (lv' := [(1, .int 0), (0, .ref (g_r G))]) hx hb dX12_back_15 rfl hl (by decide) rfl (fun ls hl => ?_)
    exact w16  N 0 (r_set r 0 0) _ _ _ hw (lv_sub hl [1, 0] rfl)
  · refine lv_iconst (v := 0) hx hb dX12_back_12 (by decide) ?_
    exact p_zret E hw hr (by decide) (Nat.le_of_ble_eq_true rfl) (Nat.le_of_ble_eq_true rfl) rfl dX12_back_13
set_option maxHeartbeats 4000000 in
set_option maxRecDepth 100000 in
theorem t_R_count (l : Launch) (hfl : l.stackTraces = false) (G : wG) (on : g_on G = true) (N : Nat) (a0 : Int32) (M : Mem) (r : Rho) : Ctr l yX12_count (wWs yX12_count cX12_count 2 (some .int)) rm_R_count rm_R_count.cells rm_R_count.slots G [.ref (g_r G), .int a0] M r ((f_R_count N a0 r).map (fun z => (.inl (some (.int z.1)), M, z.2))) := by
  refine Ctr.ofF (own := "CheekTownModel") (by decide +kernel) hfl rfl (Nat.le_of_ble_eq_true rfl) (fun p e s m args below meth c E hno hr hnm hw ls hl => ?_)
  obtain ⟨hx, hb, hts, hown, hml, hTT, -⟩ := id E
  have hl : lv_has ls 2 [(0, .ref (g_r G)), (1, .int a0)] := hl
  obtain ⟨H, hH⟩ : ∃ H, H = s.heap := ⟨_, rfl⟩
  obtain ⟨locs, hlo⟩ : ∃ L : List Loc, L = [] := ⟨_, rfl⟩
  rw [← hH, ← hlo]
  rw [← hlo] at hw
  replace hw : w_W G M r s H locs := by rw [hH]; exact hw
  unfold f_R_count
  refine lv_aload_n hx hb dX12_count_0 rfl (lv_at hl 0 rfl) ?_
  refine lv_iconst (v := 0) hx hb dX12_count_1 (by decide) ?_
  refine rx_putI E hw on kF_R_56_11 (by decide) kT_11_0 dX12_count_2 (fun H locs hw => ?_)
  refine lv_iload_n hx hb dX12_count_5 rfl (lv_at hl 1 rfl) ?_
  refine cx_if_ne (tgt := 16) E dX12_count_6 (by decide) (fun _ => ?_) (fun _ => ?_)
  · refine lv_iload_n hx hb dX12_count_16 rfl (lv_at hl 1 rfl) ?_
    refine lv_iconst (v := 1) hx hb dX12_count_17 (by decide) ?_
    refine cx_icmp_ne (tgt := 28) E dX12_count_18 (by decide) (fun _ => ?_) (fun _ => ?_)
    · refine lv_iload_n hx hb dX12_count_28 rfl (lv_at hl 1 rfl) ?_
      refine lv_iconst (v := 2) hx hb dX12_count_29 (by decide) ?_
      refine cx_icmp_ne (tgt := 40) E dX12_count_30 (by decide) (fun _ => ?_) (fun _ => ?_)
      · refine lv_iload_n hx hb dX12_count_40 rfl (lv_at hl 1 rfl) ?_
        refine lv_iconst (v := 3) hx hb dX12_count_41 (by decide) ?_
        refine cx_icmp_ne (tgt := 53) E dX12_count_42 (by decide) (fun _ => ?_) (fun _ => ?_)
        · refine lv_iload_n hx hb dX12_count_53 rfl (lv_at hl 1 rfl) ?_
          refine lv_iconst (v := 4) hx hb dX12_count_54 (by decide) ?_
          refine cx_icmp_ne (tgt := 65) E dX12_count_55 (by decide) (fun _ => ?_) (fun _ => ?_)
          · refine lv_iload_n hx hb dX12_count_65 rfl (lv_at hl 1 rfl) ?_
            refine lv_iconst (v := 5) hx hb dX12_count_66 (by decide) ?_
            refine cx_icmp_ne (tgt := 77) E dX12_count_67 (by decide) (fun _ => ?_) (fun _ => ?_)
            · refine lv_iload_n hx hb dX12_count_77 rfl (lv_at hl 1 rfl) ?_
              refine lv_bipush (v := 6) hx hb dX12_count_78 (by decide) ?_
              refine lv_bipush (v := 10) hx hb dX12_count_80 (by decide) ?_
              refine W_bind fun z1 hz => ?_
              refine w_after (cells1 := 0) (slots1 := 0) (w_runS E kS_R_59 kc_X12_isIn (t_R_isIn l hfl G a0 6 10 M (r_set r 0 0) ((fun z => (.inl (some (.int z)), M, (r_set r 0 0))) z1) (by rw [hz]; rfl)) ⟨Nat.le_of_ble_eq_true rfl, Nat.le_of_ble_eq_true rfl⟩ hw rfl hl.1 rfl (Nat.le_of_ble_eq_true rfl) dX12_count_82 ⟨Nat.le_of_ble_eq_true rfl, Nat.le_of_ble_eq_true rfl⟩) hw rfl (Nat.le_of_ble_eq_true rfl) (Nat.le_of_ble_eq_true rfl) (fun H locs hw => ?_)
              refine W.eq (g2 := F0 m 85 ls [.int z1]) rfl ?_
              have hw : w_W G M (r_set r 0 0) s H locs := hw
              refine cx_if_eq (tgt := 101) E dX12_count_85 (by decide) (fun _ => ?_) (fun _ => ?_)
              · refine lv_iload_n hx hb dX12_count_101 rfl (lv_at hl 1 rfl) ?_
                refine lv_bipush (v := 11) hx hb dX12_count_102 (by decide) ?_
                refine cx_icmp_ne (tgt := 112) E dX12_count_104 (by decide) (fun _ => ?_) (fun _ => ?_)
                · refine lv_iload_n hx hb dX12_count_112 rfl (lv_at hl 1 rfl) ?_
                  refine lv_bipush (v := 12) hx hb dX12_count_113 (by decide) ?_
                  refine cx_icmp_ne (tgt := 126) E dX12_count_115 (by decide) (fun _ => ?_) (fun _ => ?_)
                  · refine lv_iload_n hx hb dX12_count_126 rfl (lv_at hl 1 rfl) ?_
                    refine lv_bipush (v := 13) hx hb dX12_count_127 (by decide) ?_
                    refine cx_icmp_ne (tgt := 137) E dX12_count_129 (by decide) (fun _ => ?_) (fun _ => ?_)
                    · refine lv_iload_n hx hb dX12_count_137 rfl (lv_at hl 1 rfl) ?_
                      refine lv_bipush (v := 14) hx hb dX12_count_138 (by decide) ?_
                      refine lv_bipush (v := 16) hx hb dX12_count_140 (by decide) ?_
                      refine W_bind fun z2 hz => ?_
                      refine w_after (cells1 := 0) (slots1 := 0) (w_runS E kS_R_59 kc_X12_isIn (t_R_isIn l hfl G a0 14 16 M (r_set r 0 0) ((fun z => (.inl (some (.int z)), M, (r_set r 0 0))) z2) (by rw [hz]; rfl)) ⟨Nat.le_of_ble_eq_true rfl, Nat.le_of_ble_eq_true rfl⟩ hw rfl hl.1 rfl (Nat.le_of_ble_eq_true rfl) dX12_count_142 ⟨Nat.le_of_ble_eq_true rfl, Nat.le_of_ble_eq_true rfl⟩) hw rfl (Nat.le_of_ble_eq_true rfl) (Nat.le_of_ble_eq_true rfl) (fun H locs hw => ?_)
                      refine W.eq (g2 := F0 m 145 ls [.int z2]) rfl ?_
                      have hw : w_W G M (r_set r 0 0) s H locs := hw
                      refine cx_if_eq (tgt := 163) E dX12_count_145 (by decide) (fun _ => ?_) (fun _ => ?_)
                      · refine lv_iconst (v := (-1)) hx hb dX12_count_163 (by decide) ?_
                        exact p_iret E hw hr (Nat.le_of_ble_eq_true rfl) (Nat.le_of_ble_eq_true rfl) rfl dX12_count_164
                      · refine lv_aload_n hx hb dX12_count_148 rfl (lv_at hl 0 rfl) ?_
                        refine rx_getA E hw on kF_R_7_11 (by decide) dX12_count_149 ?_
                        refine lv_bipush (v := 13) hx hb dX12_count_152 (by decide) ?_
                        refine lv_iload_n hx hb dX12_count_154 rfl (lv_at hl 1 rfl) ?_
                        refine lv_iadd hx hb dX12_count_155 ?_
                        refine lv_bipush (v := 14) hx hb dX12_count_156 (by decide) ?_
                        refine lv_isub hx hb dX12_count_158 ?_
                        refine rx_iald E hw on (by decide) dX12_count_159 (fun v3 => ?_)
                        refine lv_goto (tgt := 164) hx hb dX12_count_160 (by decide) ?_
                        exact p_iret E hw hr (Nat.le_of_ble_eq_true rfl) (Nat.le_of_ble_eq_true rfl) rfl dX12_count_164
                    · refine lv_aload_n hx hb dX12_count_132 rfl (lv_at hl 0 rfl) ?_
                      refine rx_getI E hw on kF_R_207_11 (by decide) dX12_count_133 ?_
                      exact p_iret E hw hr (Nat.le_of_ble_eq_true rfl) (Nat.le_of_ble_eq_true rfl) rfl dX12_count_136
                  · refine lv_aload_n hx hb dX12_count_118 rfl (lv_at hl 0 rfl) ?_
                    refine rx_getA E hw on kF_R_7_11 (by decide) dX12_count_119 ?_
                    refine lv_bipush (v := 12) hx hb dX12_count_122 (by decide) ?_
                    refine rx_iald E hw on (by decide) dX12_count_124 (fun v4 => ?_)
                    exact p_iret E hw hr (Nat.le_of_ble_eq_true rfl) (Nat.le_of_ble_eq_true rfl) rfl dX12_count_125
                · refine lv_aload_n hx hb dX12_count_107 rfl (lv_at hl 0 rfl) ?_
                  refine W_bind fun z5 hz => ?_
                  refine w_after (cells1 := 0) (slots1 := 0) (w_runV E kV_R_372 kc_X12_coldsNow (t_R_coldsNow l hfl G on N M (r_set r 0 0) ((fun z => (.inl (some (.int z)), M, (r_set r 0 0))) z5) (by rw [hz]; rfl)) ⟨Nat.le_of_ble_eq_true rfl, Nat.le_of_ble_eq_true rfl⟩ hw (w_recvR E hw on) rfl hl.1 rfl (Nat.le_of_ble_eq_true rfl) dX12_count_108 ⟨Nat.le_of_ble_eq_true rfl, Nat.le_of_ble_eq_true rfl⟩) hw rfl (Nat.le_of_ble_eq_true rfl) (Nat.le_of_ble_eq_true rfl) (fun H locs hw => ?_)
                  refine W.eq (g2 := F0 m 111 ls [.int z5]) rfl ?_
                  have hw : w_W G M (r_set r 0 0) s H locs := hw
                  exact p_iret E hw hr (Nat.le_of_ble_eq_true rfl) (Nat.le_of_ble_eq_true rfl) rfl dX12_count_111
              · refine lv_aload_n hx hb dX12_count_88 rfl (lv_at hl 0 rfl) ?_
                refine rx_getA E hw on kF_R_7_11 (by decide) dX12_count_89 ?_
                refine lv_bipush (v := 7) hx hb dX12_count_92 (by decide) ?_
                refine lv_iload_n hx hb dX12_count_94 rfl (lv_at hl 1 rfl) ?_
                refine lv_iadd hx hb dX12_count_95 ?_
                refine lv_bipush (v := 6) hx hb dX12_count_96 (by decide) ?_
                refine lv_isub hx hb dX12_count_98 ?_
                refine rx_iald E hw on (by decide) dX12_count_99 (fun v6 => ?_)
                exact p_iret E hw hr (Nat.le_of_ble_eq_true rfl) (Nat.le_of_ble_eq_true rfl) rfl dX12_count_100
            · refine lv_aload_n hx hb dX12_count_70 rfl (lv_at hl 0 rfl) ?_
              refine rx_getA E hw on kF_R_7_11 (by decide) dX12_count_71 ?_
              refine lv_iconst (v := 1) hx hb dX12_count_74 (by decide) ?_
              refine rx_iald E hw on (by decide) dX12_count_75 (fun v7 => ?_)
              exact p_iret E hw hr (Nat.le_of_ble_eq_true rfl) (Nat.le_of_ble_eq_true rfl) rfl dX12_count_76
          · refine lv_aload_n hx hb dX12_count_58 rfl (lv_at hl 0 rfl) ?_
            refine rx_getA E hw on kF_R_7_11 (by decide) dX12_count_59 ?_
            refine lv_iconst (v := 0) hx hb dX12_count_62 (by decide) ?_
            refine rx_iald E hw on (by decide) dX12_count_63 (fun v8 => ?_)
            exact p_iret E hw hr (Nat.le_of_ble_eq_true rfl) (Nat.le_of_ble_eq_true rfl) rfl dX12_count_64
        · refine lv_aload_n hx hb dX12_count_45 rfl (lv_at hl 0 rfl) ?_
          refine rx_getA E hw on kF_R_7_11 (by decide) dX12_count_46 ?_
          refine lv_bipush (v := 6) hx hb dX12_count_49 (by decide) ?_
          refine rx_iald E hw on (by decide) dX12_count_51 (fun v9 => ?_)
          exact p_iret E hw hr (Nat.le_of_ble_eq_true rfl) (Nat.le_of_ble_eq_true rfl) rfl dX12_count_52
      · refine lv_aload_n hx hb dX12_count_33 rfl (lv_at hl 0 rfl) ?_
        refine rx_getA E hw on kF_R_7_11 (by decide) dX12_count_34 ?_
        refine lv_iconst (v := 5) hx hb dX12_count_37 (by decide) ?_
        refine rx_iald E hw on (by decide) dX12_count_38 (fun v10 => ?_)
        exact p_iret E hw hr (Nat.le_of_ble_eq_true rfl) (Nat.le_of_ble_eq_true rfl) rfl dX12_count_39
    · refine lv_aload_n hx hb dX12_count_21 rfl (lv_at hl 0 rfl) ?_
      refine rx_getA E hw on kF_R_7_11 (by decide) dX12_count_22 ?_
      refine lv_iconst (v := 4) hx hb dX12_count_25 (by decide) ?_
      refine rx_iald E hw on (by decide) dX12_count_26 (fun v11 => ?_)
      exact p_iret E hw hr (Nat.le_of_ble_eq_true rfl) (Nat.le_of_ble_eq_true rfl) rfl dX12_count_27
  · refine lv_aload_n hx hb dX12_count_9 rfl (lv_at hl 0 rfl) ?_
    refine rx_getA E hw on kF_R_7_11 (by decide) dX12_count_10 ?_
    refine lv_iconst (v := 3) hx hb dX12_count_13 (by decide) ?_
    refine rx_iald E hw on (by decide) dX12_count_14 (fun v12 => ?_)
    exact p_iret E hw hr (Nat.le_of_ble_eq_true rfl) (Nat.le_of_ble_eq_true rfl) rfl dX12_count_15

