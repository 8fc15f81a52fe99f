set_option maxHeartbeats 4000000 in
set_option maxRecDepth 100000 in
theorem t_R_pays (l : Launch) (hfl : l.stackTraces = false) (G : wG) (on : g_on G = true) (a0 : Int32) (a1 : Int32) (a2 : Int32) (a3 : Int32) (M : Mem) (r : Rho) : Ctr l yX12_pays (wWs yX12_pays cX12_pays 7 (some .int)) rm_R_pays rm_R_pays.cells rm_R_pays.slots G [.ref (g_r G), .int a0, .int a1, .int a2, .int a3] M r ((f_R_pays a0 a1 a2 a3 r).map (fun z => (.inl (some (.int z)), M, r))) := by
  refine Ctr.ofF (own := "CheekTownModel") (by decide +kernel) hfl rfl (Nat.le_of_ble_eq_true rfl) (fun p e s m args below meth c E hno hr hnm hw ls hl => ?_)
  obtain ⟨hx, hb, hts, hown, hml, hTT, -⟩ := id E
  have hl : lv_has ls 7 [(0, .ref (g_r G)), (1, .int a0), (2, .int a1), (3, .int a2), (4, .int a3)] := hl
  obtain ⟨H, hH⟩ : ∃ H, H = s.heap := ⟨_, rfl⟩
  obtain ⟨locs, hlo⟩ : ∃ L : List Loc, L = [] := ⟨_, rfl⟩
  rw [← hH, ← hlo]
  rw [← hlo] at hw
  replace hw : w_W G M r s H locs := by rw [hH]; exact hw
  have w60 : ∀ (y0 : Int32) (y1 : Int32) (H : Heap) (locs : List Loc) (ls : Array Slot), w_W G M r s H locs → lv_has ls 7 [] → W p l e rm_R_pays s m args below meth c H locs 0 0 (PQ G below args s rm_R_pays.cells rm_R_pays.slots (fun z => (.inl (some (.int z)), M, r)) (f_R_pays_60 a0 a1 a2 a3 r y0 y1)) (F0 m 60 ls [.int y1, .int y0]) := by
    intro y0 y1 H locs ls hw hl
    unfold f_R_pays_60
    refine lv_iadd hx hb dX12_pays_60 ?_
    exact p_iret E hw hr (Nat.le_of_ble_eq_true rfl) (Nat.le_of_ble_eq_true rfl) rfl dX12_pays_61
  have w41 : ∀ (x5 : Int32) (y0 : Int32) (H : Heap) (locs : List Loc) (ls : Array Slot), w_W G M r s H locs → lv_has ls 7 [(0, .ref (g_r G)), (3, .int a2), (5, .int x5)] → W p l e rm_R_pays s m args below meth c H locs 0 0 (PQ G below args s rm_R_pays.cells rm_R_pays.slots (fun z => (.inl (some (.int z)), M, r)) (f_R_pays_41 a0 a1 a2 a3 r x5 y0)) (F0 m 41 ls [.int y0]) := by
    intro x5 y0 H locs ls hw hl
    unfold f_R_pays_41
    refine lv_istore (lv' := [(6, .int y0), (0, .ref (g_r G)), (3, .int a2), (5, .int x5)]) hx hb dX12_pays_41 hl (by decide) rfl (fun ls hl => ?_)
    refine lv_aload_n hx hb dX12_pays_43 rfl (lv_at hl 1 rfl) ?_
    refine lv_iload hx hb dX12_pays_44 (lv_at hl 3 rfl) ?_
    refine lv_iload hx hb dX12_pays_46 (lv_at hl 0 rfl) ?_
    refine W_bind fun z5 hz => ?_
    refine w_after (cells1 := 0) (slots1 := 0) (w_runV E kV_R_263 kc_X12_costOf (t_R_costOf l hfl G on x5 y0 M r ((fun z => (.inl (some (.int z)), M, r)) z5) (by rw [hz]; rfl)) ⟨Nat.le_of_ble_eq_true rfl, Nat.le_of_ble_eq_true rfl⟩ hw (w_recvR E hw on) rfl hl.1 rfl (Nat.le_of_ble_eq_true rfl) dX12_pays_48 ⟨Nat.le_of_ble_eq_true rfl, Nat.le_of_ble_eq_true rfl⟩) hw rfl (Nat.le_of_ble_eq_true rfl) (Nat.le_of_ble_eq_true rfl) (fun H locs hw => ?_)
    refine W.eq (g2 := F0 m 51 ls [.int z5]) rfl ?_
    have hw : w_W G M r s H locs := hw
    refine lv_iload_n hx hb dX12_pays_51 rfl (lv_at hl 2 rfl) ?_
    refine cx_if_eq (tgt := 59) E dX12_pays_52 (by decide) (fun _ => ?_) (fun _ => ?_)
    · refine lv_iconst (v := 0) hx hb dX12_pays_59 (by decide) ?_
      exact w60  z5 0 _ _ _ hw (lv_sub hl [] rfl)
    · refine lv_iconst (v := 1) hx hb dX12_pays_55 (by decide) ?_
      refine lv_goto (tgt := 60) hx hb dX12_pays_56 (by decide) ?_
      exact w60  z5 1 _ _ _ hw (lv_sub hl [] rfl)
  have w19 : ∀ (y0 : Int32) (H : Heap) (locs : List Loc) (ls : Array Slot), w_W G M r s H locs → lv_has ls 7 [(0, .ref (g_r G)), (1, .int a0), (2, .int a1), (3, .int a2), (4, .int a3)] → W p l e rm_R_pays s m args below meth c H locs 0 0 (PQ G below args s rm_R_pays.cells rm_R_pays.slots (fun z => (.inl (some (.int z)), M, r)) (f_R_pays_19 a0 a1 a2 a3 r y0)) (F0 m 19 ls [.int y0]) := by
    intro y0 H locs ls hw hl
    unfold f_R_pays_19
    refine lv_istore (lv' := [(5, .int y0), (0, .ref (g_r G)), (1, .int a0), (2, .int a1), (3, .int a2), (4, .int a3)]) hx hb dX12_pays_19 hl (by decide) rfl (fun ls hl => ?_)
    refine lv_iload hx hb dX12_pays_21 (lv_at hl 5 rfl) ?_
    refine cx_if_eq (tgt := 35) E dX12_pays_23 (by decide) (fun _ => ?_) (fun _ => ?_)
    · refine lv_aload_n hx hb dX12_pays_35 rfl (lv_at hl 1 rfl) ?_
      refine lv_iload_n hx hb dX12_pays_36 rfl (lv_at hl 3 rfl) ?_
      refine lv_iconst (v := 1) hx hb dX12_pays_37 (by decide) ?_
      refine W_bind fun z3 hz => ?_
      refine w_after (cells1 := 0) (slots1 := 0) (w_runV E kV_R_257 kc_X12_of (t_R_of l hfl G on a1 1 M r ((fun z => (.inl (some (.int z)), M, r)) z3) (by rw [hz]; rfl)) ⟨Nat.le_of_ble_eq_true rfl, Nat.le_of_ble_eq_true rfl⟩ hw (w_recvR E hw on) rfl hl.1 rfl (Nat.le_of_ble_eq_true rfl) dX12_pays_38 ⟨Nat.le_of_ble_eq_true rfl, Nat.le_of_ble_eq_true rfl⟩) hw rfl (Nat.le_of_ble_eq_true rfl) (Nat.le_of_ble_eq_true rfl) (fun H locs hw => ?_)
      refine W.eq (g2 := F0 m 41 ls [.int z3]) rfl ?_
      have hw : w_W G M r s H locs := hw
      exact w41  y0 z3 _ _ _ hw (lv_sub hl [1, 4, 0] rfl)
    · refine lv_aload_n hx hb dX12_pays_26 rfl (lv_at hl 1 rfl) ?_
      refine lv_iload_n hx hb dX12_pays_27 rfl (lv_at hl 2 rfl) ?_
      refine lv_iconst (v := 1) hx hb dX12_pays_28 (by decide) ?_
      refine W_bind fun z4 hz => ?_
      refine w_after (cells1 := 0) (slots1 := 0) (w_runV E kV_R_257 kc_X12_of (t_R_of l hfl G on a0 1 M r ((fun z => (.inl (some (.int z)), M, r)) z4) (by rw [hz]; rfl)) ⟨Nat.le_of_ble_eq_true rfl, Nat.le_of_ble_eq_true rfl⟩ hw (w_recvR E hw on) rfl hl.1 rfl (Nat.le_of_ble_eq_true rfl) dX12_pays_29 ⟨Nat.le_of_ble_eq_true rfl, Nat.le_of_ble_eq_true rfl⟩) hw rfl (Nat.le_of_ble_eq_true rfl) (Nat.le_of_ble_eq_true rfl) (fun H locs hw => ?_)
      refine W.eq (g2 := F0 m 32 ls [.int z4]) rfl ?_
      have hw : w_W G M r s H locs := hw
      refine lv_goto (tgt := 41) hx hb dX12_pays_32 (by decide) ?_
      exact w41  y0 z4 _ _ _ hw (lv_sub hl [1, 4, 0] rfl)
  unfold f_R_pays
  refine lv_iload_n hx hb dX12_pays_0 rfl (lv_at hl 3 rfl) ?_
  refine cx_if_eq (tgt := 13) E dX12_pays_1 (by decide) (fun _ => ?_) (fun _ => ?_)
  · refine lv_aload_n hx hb dX12_pays_13 rfl (lv_at hl 0 rfl) ?_
    refine lv_iload_n hx hb dX12_pays_14 rfl (lv_at hl 1 rfl) ?_
    refine lv_iconst (v := 1) hx hb dX12_pays_15 (by decide) ?_
    refine W_bind fun z1 hz => ?_
    refine w_after (cells1 := 0) (slots1 := 0) (w_runV E kV_R_257 kc_X12_of (t_R_of l hfl G on a0 1 M r ((fun z => (.inl (some (.int z)), M, r)) z1) (by rw [hz]; rfl)) ⟨Nat.le_of_ble_eq_true rfl, Nat.le_of_ble_eq_true rfl⟩ hw (w_recvR E hw on) rfl hl.1 rfl (Nat.le_of_ble_eq_true rfl) dX12_pays_16 ⟨Nat.le_of_ble_eq_true rfl, Nat.le_of_ble_eq_true rfl⟩) hw rfl (Nat.le_of_ble_eq_true rfl) (Nat.le_of_ble_eq_true rfl) (fun H locs hw => ?_)
    refine W.eq (g2 := F0 m 19 ls [.int z1]) rfl ?_
    have hw : w_W G M r s H locs := hw
    exact w19  z1 _ _ _ hw (lv_sub hl [0, 1, 2, 3, 4] rfl)
  · refine lv_aload_n hx hb dX12_pays_4 rfl (lv_at hl 0 rfl) ?_
    refine lv_iload_n hx hb dX12_pays_5 rfl (lv_at hl 2 rfl) ?_
    refine lv_iconst (v := 1) hx hb dX12_pays_6 (by decide) ?_
    refine W_bind fun z2 hz => ?_
    refine w_after (cells1 := 0) (slots1 := 0) (w_runV E kV_R_257 kc_X12_of (t_R_of l hfl G on a1 1 M r ((fun z => (.inl (some (.int z)), M, r)) z2) (by rw [hz]; rfl)) ⟨Nat.le_of_ble_eq_true rfl, Nat.le_of_ble_eq_true rfl⟩ hw (w_recvR E hw on) rfl hl.1 rfl (Nat.le_of_ble_eq_true rfl) dX12_pays_7 ⟨Nat.le_of_ble_eq_true rfl, Nat.le_of_ble_eq_true rfl⟩) hw rfl (Nat.le_of_ble_eq_true rfl) (Nat.le_of_ble_eq_true rfl) (fun H locs hw => ?_)
    refine W.eq (g2 := F0 m 10 ls [.int z2]) rfl ?_
    have hw : w_W G M r s H locs := hw
    refine lv_goto (tgt := 19) hx hb dX12_pays_10 (by decide) ?_
    exact w19  z2 _ _ _ hw (lv_sub hl [0, 1, 2, 3, 4] rfl)
set_option maxHeartbeats 4000000 in
set_option maxRecDepth 100000 in
theorem t_R_rests (l : Launch) (hfl : l.stackTraces = false) (G : wG) (on : g_on G = true) (N : Nat) (a0 : Int32) (a1 : Int32) (M : Mem) (r : Rho) : Ctr l yX12_rests (wWs yX12_rests cX12_rests 7 (some .int)) rm_R_rests rm_R_rests.cells rm_R_rests.slots G [.ref (g_r G), .int a0, .int a1] M r ((f_R_rests N a0 a1 r).map (fun z => (.inl (some (.int z.1)), M, z.2))) := by
  refine Ctr.ofF (own := "CheekTownModel") (by decide +kernel) hfl rfl (Nat.le_of_ble_eq_true rfl) (fun p e s m args below meth c E hno hr hnm hw ls hl => ?_)
  obtain ⟨hx, hb, hts, hown, hml, hTT, -⟩ := id E
  have hl : lv_has ls 7 [(0, .ref (g_r G)), (1, .int a0), (2, .int a1)] := hl
  obtain ⟨H, hH⟩ : ∃ H, H = s.heap := ⟨_, rfl⟩
  obtain ⟨locs, hlo⟩ : ∃ L : List Loc, L = [] := ⟨_, rfl⟩
  rw [← hH, ← hlo]
  rw [← hlo] at hw
  replace hw : w_W G M r s H locs := by rw [hH]; exact hw
  have w90 : ∀ (k24 : Int32 → Int32 → Rho → Option (Int32 × Rho)) (hk24 : ∀ (x3 : Int32) (x4 : Int32) (r : Rho) (H : Heap) (locs : List Loc) (ls : Array Slot), w_W G M r s H locs → lv_has ls 7 [(0, .ref (g_r G)), (1, .int a0), (2, .int a1), (3, .int x3), (4, .int x4)] → W p l e rm_R_rests s m args below meth c H locs 0 0 (PQ G below args s rm_R_rests.cells rm_R_rests.slots (fun z => (.inl (some (.int z.1)), M, z.2)) (k24 x3 x4 r)) (F0 m 24 ls [])) (x3 : Int32) (x4 : Int32) (x5 : Int32) (x6 : Int32) (y1 : Int32) (y2 : Int32) (y3 : Int32) (r : Rho) (H : Heap) (locs : List Loc) (ls : Array Slot), w_W G M r s H locs → lv_has ls 7 [(0, .ref (g_r G)), (1, .int a0), (2, .int a1), (3, .int x3), (4, .int x4), (5, .int x5), (6, .int x6)] → W p l e rm_R_rests s m args below meth c H locs 0 0 (PQ G below args s rm_R_rests.cells rm_R_rests.slots (fun z => (.inl (some (.int z.1)), M, z.2)) (f_R_rests_90 N a0 a1 k24 x3 x4 x5 x6 y1 y2 y3 r)) (F0 m 90 ls [.int y3, .int y2, .int y1, .ref (g_r G)]) := by
    intro k24 hk24 x3 x4 x5 x6 y1 y2 y3 r H locs ls hw hl
    unfold f_R_rests_90
    refine lv_iload hx hb dX12_rests_90 (lv_at hl 5 rfl) ?_
    refine W_bind fun z6 hz => ?_
    refine w_after (cells1 := 0) (slots1 := 0) (w_runV E kV_R_327 kc_X12_pays (t_R_pays l hfl G on y1 y2 y3 x5 M r ((fun z => (.inl (some (.int z)), M, r)) z6) (by rw [hz]; rfl)) ⟨Nat.le_of_ble_eq_true rfl, Nat.le_of_ble_eq_true rfl⟩ hw (w_recvR E hw on) rfl hl.1 rfl (Nat.le_of_ble_eq_true rfl) dX12_rests_92 ⟨Nat.le_of_ble_eq_true rfl, Nat.le_of_ble_eq_true rfl⟩) hw rfl (Nat.le_of_ble_eq_true rfl) (Nat.le_of_ble_eq_true rfl) (fun H locs hw => ?_)
    refine W.eq (g2 := F0 m 95 ls [.int z6]) rfl ?_
    have hw : w_W G M r s H locs := hw
    refine lv_aload_n hx hb dX12_rests_95 rfl (lv_at hl 0 rfl) ?_
    refine lv_iload_n hx hb dX12_rests_96 rfl (lv_at hl 2 rfl) ?_
    refine lv_iload_n hx hb dX12_rests_97 rfl (lv_at hl 1 rfl) ?_
    refine lv_iload hx hb dX12_rests_98 (lv_at hl 6 rfl) ?_
    refine lv_iload hx hb dX12_rests_100 (lv_at hl 5 rfl) ?_
    refine W_bind fun z7 hz => ?_
    refine w_after (cells1 := 0) (slots1 := 0) (w_runV E kV_R_327 kc_X12_pays (t_R_pays l hfl G on a1 a0 x6 x5 M r ((fun z => (.inl (some (.int z)), M, r)) z7) (by rw [hz]; rfl)) ⟨Nat.le_of_ble_eq_true rfl, Nat.le_of_ble_eq_true rfl⟩ hw (w_recvR E hw on) rfl hl.1 rfl (Nat.le_of_ble_eq_true rfl) dX12_rests_102 ⟨Nat.le_of_ble_eq_true rfl, Nat.le_of_ble_eq_true rfl⟩) hw rfl (Nat.le_of_ble_eq_true rfl) (Nat.le_of_ble_eq_true rfl) (fun H locs hw => ?_)
    refine W.eq (g2 := F0 m 105 ls [.int z7, .int z6]) rfl ?_
    have hw : w_W G M r s H locs := hw
    refine cx_icmp_lt (tgt := 115) E dX12_rests_105 (by decide) (fun _ => ?_) (fun _ => ?_)
    · refine lv_iinc (v := x4 + 1) (lv' := [(4, .int (x4 + 1)), (0, .ref (g_r G)), (1, .int a0), (2, .int a1), (3, .int x3), (5, .int x5), (6, .int x6)]) hx hb dX12_rests_115 hl (k := 4) rfl rfl (by decide) rfl (fun ls hl => ?_)
      refine lv_goto (tgt := 24) hx hb dX12_rests_118 (by decide) ?_
      exact hk24 x3 (x4 + 1) r _ _ _ hw (lv_sub hl [1, 2, 3, 4, 0] rfl)
    · refine lv_iload_n hx hb dX12_rests_108 rfl (lv_at hl 3 rfl) ?_
      refine lv_iconst (v := 1) hx hb dX12_rests_109 (by decide) ?_
      refine lv_iload hx hb dX12_rests_110 (lv_at hl 4 rfl) ?_
      refine lv_ishl hx hb dX12_rests_112 ?_
      refine lv_ior hx hb dX12_rests_113 ?_
      refine lv_istore_n (lv' := [(3, .int (x3 ||| (1 <<< (x4 &&& 31)))), (0, .ref (g_r G)), (1, .int a0), (2, .int a1), (4, .int x4), (5, .int x5), (6, .int x6)]) hx hb dX12_rests_114 rfl hl (by decide) rfl (fun ls hl => ?_)
      refine lv_iinc (v := x4 + 1) (lv' := [(4, .int (x4 + 1)), (3, .int (x3 ||| (1 <<< (x4 &&& 31)))), (0, .ref (g_r G)), (1, .int a0), (2, .int a1), (5, .int x5), (6, .int x6)]) hx hb dX12_rests_115 hl (k := 4) rfl rfl (by decide) rfl (fun ls hl => ?_)
      refine lv_goto (tgt := 24) hx hb dX12_rests_118 (by decide) ?_
      exact hk24 (x3 ||| (1 <<< (x4 &&& 31))) (x4 + 1) r _ _ _ hw (lv_sub hl [2, 3, 4, 1, 0] rfl)
  have w59 : ∀ (k24 : Int32 → Int32 → Rho → Option (Int32 × Rho)) (hk24 : ∀ (x3 : Int32) (x4 : Int32) (r : Rho) (H : Heap) (locs : List Loc) (ls : Array Slot), w_W G M r s H locs → lv_has ls 7 [(0, .ref (g_r G)), (1, .int a0), (2, .int a1), (3, .int x3), (4, .int x4)] → W p l e rm_R_rests s m args below meth c H locs 0 0 (PQ G below args s rm_R_rests.cells rm_R_rests.slots (fun z => (.inl (some (.int z.1)), M, z.2)) (k24 x3 x4 r)) (F0 m 24 ls [])) (x3 : Int32) (x4 : Int32) (x5 : Int32) (x6 : Int32) (y1 : Int32) (y2 : Int32) (y3 : Int32) (r : Rho) (H : Heap) (locs : List Loc) (ls : Array Slot), w_W G M r s H locs → lv_has ls 7 [(0, .ref (g_r G)), (1, .int a0), (2, .int a1), (3, .int x3), (4, .int x4), (5, .int x5), (6, .int x6)] → W p l e rm_R_rests s m args below meth c H locs 0 0 (PQ G below args s rm_R_rests.cells rm_R_rests.slots (fun z => (.inl (some (.int z.1)), M, z.2)) (f_R_rests_59 N a0 a1 k24 x3 x4 x5 x6 y1 y2 y3 r)) (F0 m 59 ls [.int y3, .int y2, .int y1, .ref (g_r G)]) := by
    intro k24 hk24 x3 x4 x5 x6 y1 y2 y3 r H locs ls hw hl
    unfold f_R_rests_59
    refine lv_iload hx hb dX12_rests_59 (lv_at hl 6 rfl) ?_
    refine W_bind fun z4 hz => ?_
    refine w_after (cells1 := 0) (slots1 := 0) (w_runV E kV_R_327 kc_X12_pays (t_R_pays l hfl G on y1 y2 y3 x6 M r ((fun z => (.inl (some (.int z)), M, r)) z4) (by rw [hz]; rfl)) ⟨Nat.le_of_ble_eq_true rfl, Nat.le_of_ble_eq_true rfl⟩ hw (w_recvR E hw on) rfl hl.1 rfl (Nat.le_of_ble_eq_true rfl) dX12_rests_61 ⟨Nat.le_of_ble_eq_true rfl, Nat.le_of_ble_eq_true rfl⟩) hw rfl (Nat.le_of_ble_eq_true rfl) (Nat.le_of_ble_eq_true rfl) (fun H locs hw => ?_)
    refine W.eq (g2 := F0 m 64 ls [.int z4]) rfl ?_
    have hw : w_W G M r s H locs := hw
    refine lv_aload_n hx hb dX12_rests_64 rfl (lv_at hl 0 rfl) ?_
    refine lv_iload_n hx hb dX12_rests_65 rfl (lv_at hl 1 rfl) ?_
    refine lv_iload_n hx hb dX12_rests_66 rfl (lv_at hl 2 rfl) ?_
    refine lv_iload hx hb dX12_rests_67 (lv_at hl 5 rfl) ?_
    refine lv_iload hx hb dX12_rests_69 (lv_at hl 6 rfl) ?_
    refine W_bind fun z5 hz => ?_
    refine w_after (cells1 := 0) (slots1 := 0) (w_runV E kV_R_327 kc_X12_pays (t_R_pays l hfl G on a0 a1 x5 x6 M r ((fun z => (.inl (some (.int z)), M, r)) z5) (by rw [hz]; rfl)) ⟨Nat.le_of_ble_eq_true rfl, Nat.le_of_ble_eq_true rfl⟩ hw (w_recvR E hw on) rfl hl.1 rfl (Nat.le_of_ble_eq_true rfl) dX12_rests_71 ⟨Nat.le_of_ble_eq_true rfl, Nat.le_of_ble_eq_true rfl⟩) hw rfl (Nat.le_of_ble_eq_true rfl) (Nat.le_of_ble_eq_true rfl) (fun H locs hw => ?_)
    refine W.eq (g2 := F0 m 74 ls [.int z5, .int z4]) rfl ?_
    have hw : w_W G M r s H locs := hw
    refine cx_icmp_lt (tgt := 115) E dX12_rests_74 (by decide) (fun _ => ?_) (fun _ => ?_)
    · refine lv_iinc (v := x4 + 1) (lv' := [(4, .int (x4 + 1)), (0, .ref (g_r G)), (1, .int a0), (2, .int a1), (3, .int x3), (5, .int x5), (6, .int x6)]) hx hb dX12_rests_115 hl (k := 4) rfl rfl (by decide) rfl (fun ls hl => ?_)
      refine lv_goto (tgt := 24) hx hb dX12_rests_118 (by decide) ?_
      exact hk24 x3 (x4 + 1) r _ _ _ hw (lv_sub hl [1, 2, 3, 4, 0] rfl)
    · refine lv_aload_n hx hb dX12_rests_77 rfl (lv_at hl 0 rfl) ?_
      refine lv_iload_n hx hb dX12_rests_78 rfl (lv_at hl 2 rfl) ?_
      refine lv_iload_n hx hb dX12_rests_79 rfl (lv_at hl 1 rfl) ?_
      refine lv_iload hx hb dX12_rests_80 (lv_at hl 6 rfl) ?_
      refine cx_if_ne (tgt := 89) E dX12_rests_82 (by decide) (fun _ => ?_) (fun _ => ?_)
      · refine lv_iconst (v := 0) hx hb dX12_rests_89 (by decide) ?_
        exact w90 k24 hk24 x3 x4 x5 x6 a1 a0 0 r _ _ _ hw (lv_sub hl [0, 1, 2, 3, 4, 5, 6] rfl)
      · refine lv_iconst (v := 1) hx hb dX12_rests_85 (by decide) ?_
        refine lv_goto (tgt := 90) hx hb dX12_rests_86 (by decide) ?_
        exact w90 k24 hk24 x3 x4 x5 x6 a1 a0 1 r _ _ _ hw (lv_sub hl [0, 1, 2, 3, 4, 5, 6] rfl)
  have w24 : ∀ (n : Nat) (x3 : Int32) (x4 : Int32) (r : Rho) (H : Heap) (locs : List Loc) (ls : Array Slot), w_W G M r s H locs → lv_has ls 7 [(0, .ref (g_r G)), (1, .int a0), (2, .int a1), (3, .int x3), (4, .int x4)] → W p l e rm_R_rests s m args below meth c H locs 0 0 (PQ G below args s rm_R_rests.cells rm_R_rests.slots (fun z => (.inl (some (.int z.1)), M, z.2)) (f_R_rests_24 N a0 a1 n x3 x4 r)) (F0 m 24 ls []) := by
    intro n
    induction n with
    | zero => intros; exact W_none
    | succ n ih =>
      intro x3 x4 r H locs ls hw hl
      rw [f_R_rests_24]
      refine lv_iload hx hb dX12_rests_24 (lv_at hl 4 rfl) ?_
      refine lv_iconst (v := 4) hx hb dX12_rests_26 (by decide) ?_
      refine cx_icmp_ge (tgt := 121) E dX12_rests_27 (by decide) (fun _ => ?_) (fun _ => ?_)
      · refine lv_iload_n hx hb dX12_rests_121 rfl (lv_at hl 3 rfl) ?_
        exact p_iret E hw hr (Nat.le_of_ble_eq_true rfl) (Nat.le_of_ble_eq_true rfl) rfl dX12_rests_122
      · refine lv_iload hx hb dX12_rests_30 (lv_at hl 4 rfl) ?_
        refine lv_iconst (v := 0) hx hb dX12_rests_32 (by decide) ?_
        refine W_bind fun z2 hz => ?_
        refine w_after (cells1 := 0) (slots1 := 0) (w_runS E kS_R_305 kc_X12_isOf (t_R_isOf l hfl G x4 0 M r ((fun z => (.inl (some (.int z)), M, r)) z2) (by rw [hz]; rfl)) ⟨Nat.le_of_ble_eq_true rfl, Nat.le_of_ble_eq_true rfl⟩ hw rfl hl.1 rfl (Nat.le_of_ble_eq_true rfl) dX12_rests_33 ⟨Nat.le_of_ble_eq_true rfl, Nat.le_of_ble_eq_true rfl⟩) hw rfl (Nat.le_of_ble_eq_true rfl) (Nat.le_of_ble_eq_true rfl) (fun H locs hw => ?_)
        refine W.eq (g2 := F0 m 36 ls [.int z2]) rfl ?_
        have hw : w_W G M r s H locs := hw
        refine lv_istore (lv' := [(5, .int z2), (0, .ref (g_r G)), (1, .int a0), (2, .int a1), (3, .int x3), (4, .int x4)]) hx hb dX12_rests_36 hl (by decide) rfl (fun ls hl => ?_)
        refine lv_iload hx hb dX12_rests_38 (lv_at hl 5 rfl) ?_
        refine lv_iconst (v := 1) hx hb dX12_rests_40 (by decide) ?_
        refine W_bind fun z3 hz => ?_
        refine w_after (cells1 := 0) (slots1 := 0) (w_runS E kS_R_305 kc_X12_isOf (t_R_isOf l hfl G x4 1 M r ((fun z => (.inl (some (.int z)), M, r)) z3) (by rw [hz]; rfl)) ⟨Nat.le_of_ble_eq_true rfl, Nat.le_of_ble_eq_true rfl⟩ hw rfl hl.1 rfl (Nat.le_of_ble_eq_true rfl) dX12_rests_41 ⟨Nat.le_of_ble_eq_true rfl, Nat.le_of_ble_eq_true rfl⟩) hw rfl (Nat.le_of_ble_eq_true rfl) (Nat.le_of_ble_eq_true rfl) (fun H locs hw => ?_)
        refine W.eq (g2 := F0 m 44 ls [.int z3]) rfl ?_
        have hw : w_W G M r s H locs := hw
        refine lv_istore (lv' := [(6, .int z3), (5, .int z2), (0, .ref (g_r G)), (1, .int a0), (2, .int a1), (3, .int x3), (4, .int x4)]) hx hb dX12_rests_44 hl (by decide) rfl (fun ls hl => ?_)
        refine lv_aload_n hx hb dX12_rests_46 rfl (lv_at hl 2 rfl) ?_
        refine lv_iload_n hx hb dX12_rests_47 rfl (lv_at hl 3 rfl) ?_
        refine lv_iload_n hx hb dX12_rests_48 rfl (lv_at hl 4 rfl) ?_
        refine lv_iload hx hb dX12_rests_49 (lv_at hl 1 rfl) ?_
        refine cx_if_ne (tgt := 58) E dX12_rests_51 (by decide) (fun _ => ?_) (fun _ => ?_)
        · refine lv_iconst (v := 0) hx hb dX12_rests_58 (by decide) ?_
          exact w59 (f_R_rests_24 N a0 a1 n) ih x3 x4 z2 z3 a0 a1 0 r _ _ _ hw (lv_sub hl [2, 3, 4, 5, 6, 1, 0] rfl)
        · refine lv_iconst (v := 1) hx hb dX12_rests_54 (by decide) ?_
          refine lv_goto (tgt := 59) hx hb dX12_rests_55 (by decide) ?_
          exact w59 (f_R_rests_24 N a0 a1 n) ih x3 x4 z2 z3 a0 a1 1 r _ _ _ hw (lv_sub hl [2, 3, 4, 5, 6, 1, 0] rfl)
  unfold f_R_rests
  refine lv_aload_n hx hb dX12_rests_0 rfl (lv_at hl 0 rfl) ?_
  refine lv_aload_n hx hb dX12_rests_1 rfl (lv_at hl 0 rfl) ?_
  refine lv_iload_n hx hb dX12_rests_2 rfl (lv_at hl 1 rfl) ?_
  refine lv_iload_n hx hb dX12_rests_3 rfl (lv_at hl 2 rfl) ?_
  refine W_bind fun z1 hz => ?_
  refine w_after (cells1 := 0) (slots1 := 0) (w_runV E kV_R_277 kc_X12_two (t_R_two l hfl G on a0 a1 M r ((fun z => (.inl (some (.int z)), M, r)) z1) (by rw [hz]; rfl)) ⟨Nat.le_of_ble_eq_true rfl, Nat.le_of_ble_eq_true rfl⟩ hw (w_recvR E hw on) rfl hl.1 rfl (Nat.le_of_ble_eq_true rfl) dX12_rests_4 ⟨Nat.le_of_ble_eq_true rfl, Nat.le_of_ble_eq_true rfl⟩) hw rfl (Nat.le_of_ble_eq_true rfl) (Nat.le_of_ble_eq_true rfl) (fun H locs hw => ?_)
  refine W.eq (g2 := F0 m 7 ls [.int z1, .ref (g_r G)]) rfl ?_
  have hw : w_W G M r s H locs := hw
  refine rx_putI E hw on kF_R_56_11 (by decide) kT_11_0 dX12_rests_7 (fun H locs hw => ?_)
  refine lv_aload_n hx hb dX12_rests_10 rfl (lv_at hl 0 rfl) ?_
  refine rx_getI E hw on kF_R_56_11 (by decide) dX12_rests_11 ?_
  refine cx_if_le (tgt := 19) E dX12_rests_14 (by decide) (fun _ => ?_) (fun _ => ?_)
  · refine lv_iconst (v := 0) hx hb dX12_rests_19 (by decide) ?_
    refine lv_istore_n (lv' := [(3, .int 0), (0, .ref (g_r G)), (1, .int a0), (2, .int a1)]) hx hb dX12_rests_20 rfl hl (by decide) rfl (fun ls hl => ?_)
    refine lv_iconst (v := 0) hx hb dX12_rests_21 (by decide) ?_
    refine lv_istore (lv' := [(4, .int 0), (3, .int 0), (0, .ref (g_r G)), (1, .int a0), (2, .int a1)]) hx hb dX12_rests_22 hl (by decide) rfl (fun ls hl => ?_)
    exact w24  N 0 0 (r_set r 0 z1) _ _ _ hw (lv_sub hl [2, 3, 4, 1, 0] rfl)
  · refine lv_iconst (v := 0) hx hb dX12_rests_17 (by decide) ?_
    exact p_iret E hw hr (Nat.le_of_ble_eq_true rfl) (Nat.le_of_ble_eq_true rfl) rfl dX12_rests_18
set_option maxHeartbeats 4000000 in
set_option maxRecDepth 100000 in
theorem t_R_towards (l : Launch) (hfl : l.stackTraces = false) (G : wG) (a0 : Int32) (a1 : Int32) (M : Mem) (r : Rho) : Ctr l yX12_towards (wWs yX12_towards cX12_towards 2 (some .int)) rm_R_towards rm_R_towards.cells rm_R_towards.slots G [.int a0, .int a1] M r ((f_R_towards a0 a1).map (fun z => (.inl (some (.int z)), M, r))) := by
  refine Ctr.ofF (own := "CheekTownModel") (by decide +kernel) hfl rfl (Nat.le_of_ble_eq_true rfl) (fun p e s m args below meth c E hno hr hnm hw ls hl => ?_)
  obtain ⟨hx, hb, hts, hown, hml, hTT, -⟩ := id E
  have hl : lv_has ls 2 [(0, .int a0), (1, .int a1)] := hl
  obtain ⟨H, hH⟩ : ∃ H, H = s.heap := ⟨_, rfl⟩
  obtain ⟨locs, hlo⟩ : ∃ L : List Loc, L = [] := ⟨_, rfl⟩
  rw [← hH, ← hlo]
  rw [← hlo] at hw
  replace hw : w_W G M r s H locs := by rw [hH]; exact hw
  unfold f_R_towards
  refine lv_iload_n hx hb dX12_towards_0 rfl (lv_at hl 0 rfl) ?_
  refine lv_iload_n hx hb dX12_towards_1 rfl (lv_at hl 1 rfl) ?_
  refine cx_icmp_ge (tgt := 11) E dX12_towards_2 (by decide) (fun _ => ?_) (fun _ => ?_)
  · refine lv_iload_n hx hb dX12_towards_11 rfl (lv_at hl 0 rfl) ?_
    refine lv_iload_n hx hb dX12_towards_12 rfl (lv_at hl 1 rfl) ?_
    refine cx_icmp_le (tgt := 22) E dX12_towards_13 (by decide) (fun _ => ?_) (fun _ => ?_)
    · refine lv_iload_n hx hb dX12_towards_22 rfl (lv_at hl 0 rfl) ?_
      exact p_iret E hw hr (Nat.le_of_ble_eq_true rfl) (Nat.le_of_ble_eq_true rfl) rfl dX12_towards_23
    · refine lv_iload_n hx hb dX12_towards_16 rfl (lv_at hl 0 rfl) ?_
      refine lv_iconst (v := 1) hx hb dX12_towards_17 (by decide) ?_
      refine lv_isub hx hb dX12_towards_18 ?_
      refine lv_goto (tgt := 23) hx hb dX12_towards_19 (by decide) ?_
      exact p_iret E hw hr (Nat.le_of_ble_eq_true rfl) (Nat.le_of_ble_eq_true rfl) rfl dX12_towards_23
  · refine lv_iload_n hx hb dX12_towards_5 rfl (lv_at hl 0 rfl) ?_
    refine lv_iconst (v := 1) hx hb dX12_towards_6 (by decide) ?_
    refine lv_iadd hx hb dX12_towards_7 ?_
    refine lv_goto (tgt := 23) hx hb dX12_towards_8 (by decide) ?_
    exact p_iret E hw hr (Nat.le_of_ble_eq_true rfl) (Nat.le_of_ble_eq_true rfl) rfl dX12_towards_23
set_option maxHeartbeats 4000000 in
set_option maxRecDepth 100000 in
theorem t_R_sake (l : Launch) (hfl : l.stackTraces = false) (G : wG) (on : g_on G = true) (N : Nat) (a0 : Int32) (a1 : Int32) (a2 : Int32) (M : Mem) (r : Rho) : Ctr l yX12_sake (wWs yX12_sake cX12_sake 8 (some .int)) rm_R_sake rm_R_sake.cells rm_R_sake.slots G [.ref (g_r G), .int a0, .int a1, .int a2] M r ((f_R_sake N a0 a1 a2 r).map (fun z => (.inl (some (.int z.1)), M, z.2))) := by
  refine Ctr.ofF (own := "CheekTownModel") (by decide +kernel) hfl rfl (Nat.le_of_ble_eq_true rfl) (fun p e s m args below meth c E hno hr hnm hw ls hl => ?_)
  obtain ⟨hx, hb, hts, hown, hml, hTT, -⟩ := id E
  have hl : lv_has ls 8 [(0, .ref (g_r G)), (1, .int a0), (2, .int a1), (3, .int a2)] := hl
  obtain ⟨H, hH⟩ : ∃ H, H = s.heap := ⟨_, rfl⟩
  obtain ⟨locs, hlo⟩ : ∃ L : List Loc, L = [] := ⟨_, rfl⟩
  rw [← hH, ← hlo]
  rw [← hlo] at hw
  replace hw : w_W G M r s H locs := by rw [hH]; exact hw
  have w104 : ∀ (k70 : Int32 → Int32 → Int32 → Rho → Option (Int32 × Rho)) (hk70 : ∀ (x4 : Int32) (x5 : Int32) (x6 : Int32) (r : Rho) (H : Heap) (locs : List Loc) (ls : Array Slot), w_W G M r s H locs → lv_has ls 8 [(3, .int a2), (4, .int x4), (5, .int x5), (6, .int x6)] → W p l e rm_R_sake s m args below meth c H locs 0 0 (PQ G below args s rm_R_sake.cells rm_R_sake.slots (fun z => (.inl (some (.int z.1)), M, z.2)) (k70 x4 x5 x6 r)) (F0 m 70 ls [])) (x4 : Int32) (x5 : Int32) (x6 : Int32) (x7 : Int32) (r : Rho) (H : Heap) (locs : List Loc) (ls : Array Slot), w_W G M r s H locs → lv_has ls 8 [(3, .int a2), (4, .int x4), (5, .int x5), (6, .int x6), (7, .int x7)] → W p l e rm_R_sake s m args below meth c H locs 0 0 (PQ G below args s rm_R_sake.cells rm_R_sake.slots (fun z => (.inl (some (.int z.1)), M, z.2)) (f_R_sake_104 N a0 a1 a2 k70 x4 x5 x6 x7 r)) (F0 m 104 ls []) := by
    intro k70 hk70 x4 x5 x6 x7 r H locs ls hw hl
    unfold f_R_sake_104
    refine lv_iload hx hb dX12_sake_104 (lv_at hl 2 rfl) ?_
    refine lv_iload hx hb dX12_sake_106 (lv_at hl 4 rfl) ?_
    refine W_bind fun z9 hz => ?_
    refine w_after (cells1 := 0) (slots1 := 0) (w_runS E kS_R_331 kc_X12_towards (t_R_towards l hfl G x5 x7 M r ((fun z => (.inl (some (.int z)), M, r)) z9) (by rw [hz]; rfl)) ⟨Nat.le_of_ble_eq_true rfl, Nat.le_of_ble_eq_true rfl⟩ hw rfl hl.1 rfl (Nat.le_of_ble_eq_true rfl) dX12_sake_108 ⟨Nat.le_of_ble_eq_true rfl, Nat.le_of_ble_eq_true rfl⟩) hw rfl (Nat.le_of_ble_eq_true rfl) (Nat.le_of_ble_eq_true rfl) (fun H locs hw => ?_)
    refine W.eq (g2 := F0 m 111 ls [.int z9]) rfl ?_
    have hw : w_W G M r s H locs := hw
    refine lv_istore (lv' := [(5, .int z9), (3, .int a2), (4, .int x4), (6, .int x6), (7, .int x7)]) hx hb dX12_sake_111 hl (by decide) rfl (fun ls hl => ?_)
    refine lv_iinc (v := x6 + 1) (lv' := [(6, .int (x6 + 1)), (5, .int z9), (3, .int a2), (4, .int x4), (7, .int x7)]) hx hb dX12_sake_113 hl (k := 3) rfl rfl (by decide) rfl (fun ls hl => ?_)
    refine lv_goto (tgt := 70) hx hb dX12_sake_116 (by decide) ?_
    exact hk70 x4 z9 (x6 + 1) r _ _ _ hw (lv_sub hl [2, 3, 1, 0] rfl)
  have w70 : ∀ (n : Nat) (x4 : Int32) (x5 : Int32) (x6 : Int32) (r : Rho) (H : Heap) (locs : List Loc) (ls : Array Slot), w_W G M r s H locs → lv_has ls 8 [(3, .int a2), (4, .int x4), (5, .int x5), (6, .int x6)] → W p l e rm_R_sake s m args below meth c H locs 0 0 (PQ G below args s rm_R_sake.cells rm_R_sake.slots (fun z => (.inl (some (.int z.1)), M, z.2)) (f_R_sake_70 N a0 a1 a2 n x4 x5 x6 r)) (F0 m 70 ls []) := by
    intro n
    induction n with
    | zero => intros; exact W_none
    | succ n ih =>
      intro x4 x5 x6 r H locs ls hw hl
      rw [f_R_sake_70]
      refine lv_iload hx hb dX12_sake_70 (lv_at hl 3 rfl) ?_
      refine lv_bipush (v := 8) hx hb dX12_sake_72 (by decide) ?_
      refine cx_icmp_ge (tgt := 119) E dX12_sake_74 (by decide) (fun _ => ?_) (fun _ => ?_)
      · refine lv_iconst (v := (-1)) hx hb dX12_sake_119 (by decide) ?_
        exact p_iret E hw hr (Nat.le_of_ble_eq_true rfl) (Nat.le_of_ble_eq_true rfl) rfl dX12_sake_120
      · refine lv_iload hx hb dX12_sake_77 (lv_at hl 1 rfl) ?_
        refine lv_iload hx hb dX12_sake_79 (lv_at hl 2 rfl) ?_
        refine cx_icmp_ne (tgt := 87) E dX12_sake_81 (by decide) (fun _ => ?_) (fun _ => ?_)
        · refine lv_iload hx hb dX12_sake_87 (lv_at hl 1 rfl) ?_
          refine lv_istore (lv' := [(7, .int x4), (3, .int a2), (4, .int x4), (5, .int x5), (6, .int x6)]) hx hb dX12_sake_89 hl (by decide) rfl (fun ls hl => ?_)
          refine lv_iload_n hx hb dX12_sake_91 rfl (lv_at hl 1 rfl) ?_
          refine cx_if_ne (tgt := 104) E dX12_sake_92 (by decide) (fun _ => ?_) (fun _ => ?_)
          · exact w104 (f_R_sake_70 N a0 a1 a2 n) ih x4 x5 x6 x4 r _ _ _ hw (lv_sub hl [1, 2, 3, 4, 0] rfl)
          · refine lv_iload hx hb dX12_sake_95 (lv_at hl 2 rfl) ?_
            refine lv_iload hx hb dX12_sake_97 (lv_at hl 3 rfl) ?_
            refine W_bind fun z8 hz => ?_
            refine w_after (cells1 := 0) (slots1 := 0) (w_runS E kS_R_331 kc_X12_towards (t_R_towards l hfl G x4 x5 M r ((fun z => (.inl (some (.int z)), M, r)) z8) (by rw [hz]; rfl)) ⟨Nat.le_of_ble_eq_true rfl, Nat.le_of_ble_eq_true rfl⟩ hw rfl hl.1 rfl (Nat.le_of_ble_eq_true rfl) dX12_sake_99 ⟨Nat.le_of_ble_eq_true rfl, Nat.le_of_ble_eq_true rfl⟩) hw rfl (Nat.le_of_ble_eq_true rfl) (Nat.le_of_ble_eq_true rfl) (fun H locs hw => ?_)
            refine W.eq (g2 := F0 m 102 ls [.int z8]) rfl ?_
            have hw : w_W G M r s H locs := hw
            refine lv_istore (lv' := [(4, .int z8), (7, .int x4), (3, .int a2), (5, .int x5), (6, .int x6)]) hx hb dX12_sake_102 hl (by decide) rfl (fun ls hl => ?_)
            exact w104 (f_R_sake_70 N a0 a1 a2 n) ih z8 x5 x6 x4 r _ _ _ hw (lv_sub hl [2, 0, 3, 4, 1] rfl)
        · refine lv_iload hx hb dX12_sake_84 (lv_at hl 3 rfl) ?_
          exact p_iret E hw hr (Nat.le_of_ble_eq_true rfl) (Nat.le_of_ble_eq_true rfl) rfl dX12_sake_86
  unfold f_R_sake
  refine lv_aload_n hx hb dX12_sake_0 rfl (lv_at hl 0 rfl) ?_
  refine lv_aload_n hx hb dX12_sake_1 rfl (lv_at hl 0 rfl) ?_
  refine lv_iload_n hx hb dX12_sake_2 rfl (lv_at hl 1 rfl) ?_
  refine lv_iload_n hx hb dX12_sake_3 rfl (lv_at hl 2 rfl) ?_
  refine W_bind fun z1 hz => ?_
  refine w_after (cells1 := 0) (slots1 := 0) (w_runV E kV_R_277 kc_X12_two (t_R_two l hfl G on a0 a1 M r ((fun z => (.inl (some (.int z)), M, r)) z1) (by rw [hz]; rfl)) ⟨Nat.le_of_ble_eq_true rfl, Nat.le_of_ble_eq_true rfl⟩ hw (w_recvR E hw on) rfl hl.1 rfl (Nat.le_of_ble_eq_true rfl) dX12_sake_4 ⟨Nat.le_of_ble_eq_true rfl, Nat.le_of_ble_eq_true rfl⟩) hw rfl (Nat.le_of_ble_eq_true rfl) (Nat.le_of_ble_eq_true rfl) (fun H locs hw => ?_)
  refine W.eq (g2 := F0 m 7 ls [.int z1, .ref (g_r G)]) rfl ?_
  have hw : w_W G M r s H locs := hw
  refine rx_putI E hw on kF_R_56_11 (by decide) kT_11_0 dX12_sake_7 (fun H locs hw => ?_)
  refine lv_aload_n hx hb dX12_sake_10 rfl (lv_at hl 0 rfl) ?_
  refine rx_getI E hw on kF_R_56_11 (by decide) dX12_sake_11 ?_
  refine cx_if_le (tgt := 19) E dX12_sake_14 (by decide) (fun _ => ?_) (fun _ => ?_)
  · refine lv_aload_n hx hb dX12_sake_19 rfl (lv_at hl 0 rfl) ?_
    refine lv_iload_n hx hb dX12_sake_20 rfl (lv_at hl 1 rfl) ?_
    refine lv_iconst (v := 1) hx hb dX12_sake_21 (by decide) ?_
    refine W_bind fun z2 hz => ?_
    refine w_after (cells1 := 0) (slots1 := 0) (w_runV E kV_R_257 kc_X12_of (t_R_of l hfl G on a0 1 M (r_set r 0 z1) ((fun z => (.inl (some (.int z)), M, (r_set r 0 z1))) z2) (by rw [hz]; rfl)) ⟨Nat.le_of_ble_eq_true rfl, Nat.le_of_ble_eq_true rfl⟩ hw (w_recvR E hw on) rfl hl.1 rfl (Nat.le_of_ble_eq_true rfl) dX12_sake_22 ⟨Nat.le_of_ble_eq_true rfl, Nat.le_of_ble_eq_true rfl⟩) hw rfl (Nat.le_of_ble_eq_true rfl) (Nat.le_of_ble_eq_true rfl) (fun H locs hw => ?_)
    refine W.eq (g2 := F0 m 25 ls [.int z2]) rfl ?_
    have hw : w_W G M (r_set r 0 z1) s H locs := hw
    refine lv_iconst (v := 3) hx hb dX12_sake_25 (by decide) ?_
    refine lv_ishr hx hb dX12_sake_26 ?_
    refine lv_iconst (v := 2) hx hb dX12_sake_27 (by decide) ?_
    refine cx_icmp_ne (tgt := 43) E dX12_sake_28 (by decide) (fun _ => ?_) (fun _ => ?_)
    · refine lv_iconst (v := (-1)) hx hb dX12_sake_43 (by decide) ?_
      exact p_iret E hw hr (Nat.le_of_ble_eq_true rfl) (Nat.le_of_ble_eq_true rfl) rfl dX12_sake_44
    · refine lv_aload_n hx hb dX12_sake_31 rfl (lv_at hl 0 rfl) ?_
      refine lv_iload_n hx hb dX12_sake_32 rfl (lv_at hl 2 rfl) ?_
      refine lv_iconst (v := 1) hx hb dX12_sake_33 (by decide) ?_
      refine W_bind fun z3 hz => ?_
      refine w_after (cells1 := 0) (slots1 := 0) (w_runV E kV_R_257 kc_X12_of (t_R_of l hfl G on a1 1 M (r_set r 0 z1) ((fun z => (.inl (some (.int z)), M, (r_set r 0 z1))) z3) (by rw [hz]; rfl)) ⟨Nat.le_of_ble_eq_true rfl, Nat.le_of_ble_eq_true rfl⟩ hw (w_recvR E hw on) rfl hl.1 rfl (Nat.le_of_ble_eq_true rfl) dX12_sake_34 ⟨Nat.le_of_ble_eq_true rfl, Nat.le_of_ble_eq_true rfl⟩) hw rfl (Nat.le_of_ble_eq_true rfl) (Nat.le_of_ble_eq_true rfl) (fun H locs hw => ?_)
      refine W.eq (g2 := F0 m 37 ls [.int z3]) rfl ?_
      have hw : w_W G M (r_set r 0 z1) s H locs := hw
      refine lv_iconst (v := 3) hx hb dX12_sake_37 (by decide) ?_
      refine lv_ishr hx hb dX12_sake_38 ?_
      refine lv_iconst (v := 2) hx hb dX12_sake_39 (by decide) ?_
      refine cx_icmp_eq (tgt := 45) E dX12_sake_40 (by decide) (fun _ => ?_) (fun _ => ?_)
      · refine lv_aload_n hx hb dX12_sake_45 rfl (lv_at hl 0 rfl) ?_
        refine lv_iload_n hx hb dX12_sake_46 rfl (lv_at hl 1 rfl) ?_
        refine lv_iconst (v := 1) hx hb dX12_sake_47 (by decide) ?_
        refine W_bind fun z4 hz => ?_
        refine w_after (cells1 := 0) (slots1 := 0) (w_runV E kV_R_257 kc_X12_of (t_R_of l hfl G on a0 1 M (r_set r 0 z1) ((fun z => (.inl (some (.int z)), M, (r_set r 0 z1))) z4) (by rw [hz]; rfl)) ⟨Nat.le_of_ble_eq_true rfl, Nat.le_of_ble_eq_true rfl⟩ hw (w_recvR E hw on) rfl hl.1 rfl (Nat.le_of_ble_eq_true rfl) dX12_sake_48 ⟨Nat.le_of_ble_eq_true rfl, Nat.le_of_ble_eq_true rfl⟩) hw rfl (Nat.le_of_ble_eq_true rfl) (Nat.le_of_ble_eq_true rfl) (fun H locs hw => ?_)
        refine W.eq (g2 := F0 m 51 ls [.int z4]) rfl ?_
        have hw : w_W G M (r_set r 0 z1) s H locs := hw
        refine W_bind fun z5 hz => ?_
        refine w_after (cells1 := 0) (slots1 := 0) (w_runS E kS_R_70 kc_X12_countOf (t_R_countOf l hfl G z4 M (r_set r 0 z1) ((fun z => (.inl (some (.int z)), M, (r_set r 0 z1))) z5) (by rw [hz]; rfl)) ⟨Nat.le_of_ble_eq_true rfl, Nat.le_of_ble_eq_true rfl⟩ hw rfl hl.1 rfl (Nat.le_of_ble_eq_true rfl) dX12_sake_51 ⟨Nat.le_of_ble_eq_true rfl, Nat.le_of_ble_eq_true rfl⟩) hw rfl (Nat.le_of_ble_eq_true rfl) (Nat.le_of_ble_eq_true rfl) (fun H locs hw => ?_)
        refine W.eq (g2 := F0 m 54 ls [.int z5]) rfl ?_
        have hw : w_W G M (r_set r 0 z1) s H locs := hw
        refine lv_istore (lv' := [(4, .int z5), (0, .ref (g_r G)), (1, .int a0), (2, .int a1), (3, .int a2)]) hx hb dX12_sake_54 hl (by decide) rfl (fun ls hl => ?_)
        refine lv_aload_n hx hb dX12_sake_56 rfl (lv_at hl 1 rfl) ?_
        refine lv_iload_n hx hb dX12_sake_57 rfl (lv_at hl 3 rfl) ?_
        refine lv_iconst (v := 1) hx hb dX12_sake_58 (by decide) ?_
        refine W_bind fun z6 hz => ?_
        refine w_after (cells1 := 0) (slots1 := 0) (w_runV E kV_R_257 kc_X12_of (t_R_of l hfl G on a1 1 M (r_set r 0 z1) ((fun z => (.inl (some (.int z)), M, (r_set r 0 z1))) z6) (by rw [hz]; rfl)) ⟨Nat.le_of_ble_eq_true rfl, Nat.le_of_ble_eq_true rfl⟩ hw (w_recvR E hw on) rfl hl.1 rfl (Nat.le_of_ble_eq_true rfl) dX12_sake_59 ⟨Nat.le_of_ble_eq_true rfl, Nat.le_of_ble_eq_true rfl⟩) hw rfl (Nat.le_of_ble_eq_true rfl) (Nat.le_of_ble_eq_true rfl) (fun H locs hw => ?_)
        refine W.eq (g2 := F0 m 62 ls [.int z6]) rfl ?_
        have hw : w_W G M (r_set r 0 z1) s H locs := hw
        refine W_bind fun z7 hz => ?_
        refine w_after (cells1 := 0) (slots1 := 0) (w_runS E kS_R_70 kc_X12_countOf (t_R_countOf l hfl G z6 M (r_set r 0 z1) ((fun z => (.inl (some (.int z)), M, (r_set r 0 z1))) z7) (by rw [hz]; rfl)) ⟨Nat.le_of_ble_eq_true rfl, Nat.le_of_ble_eq_true rfl⟩ hw rfl hl.1 rfl (Nat.le_of_ble_eq_true rfl) dX12_sake_62 ⟨Nat.le_of_ble_eq_true rfl, Nat.le_of_ble_eq_true rfl⟩) hw rfl (Nat.le_of_ble_eq_true rfl) (Nat.le_of_ble_eq_true rfl) (fun H locs hw => ?_)
        refine W.eq (g2 := F0 m 65 ls [.int z7]) rfl ?_
        have hw : w_W G M (r_set r 0 z1) s H locs := hw
        refine lv_istore (lv' := [(5, .int z7), (4, .int z5), (0, .ref (g_r G)), (1, .int a0), (2, .int a1), (3, .int a2)]) hx hb dX12_sake_65 hl (by decide) rfl (fun ls hl => ?_)
        refine lv_iconst (v := 0) hx hb dX12_sake_67 (by decide) ?_
        refine lv_istore (lv' := [(6, .int 0), (5, .int z7), (4, .int z5), (0, .ref (g_r G)), (1, .int a0), (2, .int a1), (3, .int a2)]) hx hb dX12_sake_68 hl (by decide) rfl (fun ls hl => ?_)
        exact w70  N z5 z7 0 (r_set r 0 z1) _ _ _ hw (lv_sub hl [6, 2, 1, 0] rfl)
      · refine lv_iconst (v := (-1)) hx hb dX12_sake_43 (by decide) ?_
        exact p_iret E hw hr (Nat.le_of_ble_eq_true rfl) (Nat.le_of_ble_eq_true rfl) rfl dX12_sake_44
  · refine lv_iconst (v := 0) hx hb dX12_sake_17 (by decide) ?_
    exact p_iret E hw hr (Nat.le_of_ble_eq_true rfl) (Nat.le_of_ble_eq_true rfl) rfl dX12_sake_18
set_option maxHeartbeats 4000000 in
set_option maxRecDepth 100000 in
theorem t_R_bits (l : Launch) (hfl : l.stackTraces = false) (G : wG) (N : Nat) (a0 : Int32) (M : Mem) (r : Rho) : Ctr l yX12_bits (wWs yX12_bits cX12_bits 3 (some .int)) rm_R_bits rm_R_bits.cells rm_R_bits.slots G [.int a0] M r ((f_R_bits N a0).map (fun z => (.inl (some (.int z)), M, r))) := by
  refine Ctr.ofF (own := "CheekTownModel") (by decide +kernel) hfl rfl (Nat.le_of_ble_eq_true rfl) (fun p e s m args below meth c E hno hr hnm hw ls hl => ?_)
  obtain ⟨hx, hb, hts, hown, hml, hTT, -⟩ := id E
  have hl : lv_has ls 3 [(0, .int a0)] := hl
  obtain ⟨H, hH⟩ : ∃ H, H = s.heap := ⟨_, rfl⟩
  obtain ⟨locs, hlo⟩ : ∃ L : List Loc, L = [] := ⟨_, rfl⟩
  rw [← hH, ← hlo]
  rw [← hlo] at hw
  replace hw : w_W G M r s H locs := by rw [hH]; exact hw
  have w4 : ∀ (n : Nat) (x1 : Int32) (x2 : Int32) (H : Heap) (locs : List Loc) (ls : Array Slot), w_W G M r s H locs → lv_has ls 3 [(0, .int a0), (1, .int x1), (2, .int x2)] → W p l e rm_R_bits s m args below meth c H locs 0 0 (PQ G below args s rm_R_bits.cells rm_R_bits.slots (fun z => (.inl (some (.int z)), M, r)) (f_R_bits_4 N a0 n x1 x2)) (F0 m 4 ls []) := by
    intro n
    induction n with
    | zero => intros; exact W_none
    | succ n ih =>
      intro x1 x2 H locs ls hw hl
      rw [f_R_bits_4]
      refine lv_iload_n hx hb dX12_bits_4 rfl (lv_at hl 2 rfl) ?_
      refine lv_bipush (v := 31) hx hb dX12_bits_5 (by decide) ?_
      refine cx_icmp_ge (tgt := 24) E dX12_bits_7 (by decide) (fun _ => ?_) (fun _ => ?_)
      · refine lv_iload_n hx hb dX12_bits_24 rfl (lv_at hl 1 rfl) ?_
        exact p_iret E hw hr (Nat.le_of_ble_eq_true rfl) (Nat.le_of_ble_eq_true rfl) rfl dX12_bits_25
      · refine lv_iload_n hx hb dX12_bits_10 rfl (lv_at hl 1 rfl) ?_
        refine lv_iload_n hx hb dX12_bits_11 rfl (lv_at hl 0 rfl) ?_
        refine lv_iload_n hx hb dX12_bits_12 rfl (lv_at hl 2 rfl) ?_
        refine lv_ishr hx hb dX12_bits_13 ?_
        refine lv_iconst (v := 1) hx hb dX12_bits_14 (by decide) ?_
        refine lv_iand hx hb dX12_bits_15 ?_
        refine lv_iadd hx hb dX12_bits_16 ?_
        refine lv_istore_n (lv' := [(1, .int (x1 + ((a0 >>> (x2 &&& 31)) &&& 1))), (0, .int a0), (2, .int x2)]) hx hb dX12_bits_17 rfl hl (by decide) rfl (fun ls hl => ?_)
        refine lv_iinc (v := x2 + 1) (lv' := [(2, .int (x2 + 1)), (1, .int (x1 + ((a0 >>> (x2 &&& 31)) &&& 1))), (0, .int a0)]) hx hb dX12_bits_18 hl (k := 2) rfl rfl (by decide) rfl (fun ls hl => ?_)
        refine lv_goto (tgt := 4) hx hb dX12_bits_21 (by decide) ?_
        exact ih (x1 + ((a0 >>> (x2 &&& 31)) &&& 1)) (x2 + 1) _ _ _ hw (lv_sub hl [2, 1, 0] rfl)
  unfold f_R_bits
  refine lv_iconst (v := 0) hx hb dX12_bits_0 (by decide) ?_
  refine lv_istore_n (lv' := [(1, .int 0), (0, .int a0)]) hx hb dX12_bits_1 rfl hl (by decide) rfl (fun ls hl => ?_)
  refine lv_iconst (v := 0) hx hb dX12_bits_2 (by decide) ?_
  refine lv_istore_n (lv' := [(2, .int 0), (1, .int 0), (0, .int a0)]) hx hb dX12_bits_3 rfl hl (by decide) rfl (fun ls hl => ?_)
  exact w4  N 0 0 _ _ _ hw (lv_sub hl [2, 1, 0] rfl)
set_option maxHeartbeats 4000000 in
set_option maxRecDepth 100000 in
theorem t_R_sits (l : Launch) (hfl : l.stackTraces = false) (G : wG) (on : g_on G = true) (N : Nat) : ∀ (d : Nat) (a0 : Int32) (a1 : Int32) (a2 : Int32) (a3 : Int32) (M : Mem) (r : Rho), Ctr l yX12_sits (wWs yX12_sits cX12_sits 7 none) (rm_R_sits d) (rm_R_sits d).cells (rm_R_sits d).slots G [.ref (g_r G), .int a0, .int a1, .int a2, .int a3] M r ((f_R_sits N d a0 a1 a2 a3 r).map (fun z => (.inl none, M, z))) := by
  intro d
  induction d with
  | zero => intros; intro x hx; cases hx
  | succ d ihd =>
    intro a0 a1 a2 a3 M r
    refine Ctr.ofF (own := "CheekTownModel") (by decide +kernel) hfl rfl (Nat.le_of_ble_eq_true rfl) (fun p e s m args below meth c E hno hr hnm hw ls hl => ?_)
    obtain ⟨hx, hb, hts, hown, hml, hTT, -⟩ := id E
    have hl : lv_has ls 7 [(0, .ref (g_r G)), (1, .int a0), (2, .int a1), (3, .int a2), (4, .int a3)] := hl
    obtain ⟨H, hH⟩ : ∃ H, H = s.heap := ⟨_, rfl⟩
    obtain ⟨locs, hlo⟩ : ∃ L : List Loc, L = [] := ⟨_, rfl⟩
    rw [← hH, ← hlo]
    rw [← hlo] at hw
    replace hw : w_W G M r s H locs := by rw [hH]; exact hw
    have w183 : ∀ (k105 : Int32 → Rho → Option (Rho)) (hk105 : ∀ (x5 : Int32) (r : Rho) (H : Heap) (locs : List Loc) (ls : Array Slot), w_W G M r s H locs → lv_has ls 7 [(0, .ref (g_r G)), (1, .int a0), (2, .int a1), (3, .int a2), (4, .int a3), (5, .int x5)] → W p l e (rm_R_sits (d + 1)) s m args below meth c H locs 0 0 (PQ G below args s (rm_R_sits (d + 1)).cells (rm_R_sits (d + 1)).slots (fun z => (.inl none, M, z)) (k105 x5 r)) (F0 m 105 ls [])) (x5 : Int32) (y1 : Int32) (y2 : Int32) (y3 : Int32) (y4 : Int32) (y5 : Int32) (r : Rho) (H : Heap) (locs : List Loc) (ls : Array Slot), w_W G M r s H locs → lv_has ls 7 [(0, .ref (g_r G)), (1, .int a0), (2, .int a1), (3, .int a2), (4, .int a3), (5, .int x5)] → W p l e (rm_R_sits (d + 1)) s m args below meth c H locs 0 0 (PQ G below args s (rm_R_sits (d + 1)).cells (rm_R_sits (d + 1)).slots (fun z => (.inl none, M, z)) (f_R_sits_183 N (f_R_sits N d) a0 a1 a2 a3 k105 x5 y1 y2 y3 y4 y5 r)) (F0 m 183 ls [.int y5, .int y4, .int y3, .int y2, .int y1, .ref (g_r G)]) := by
      intro k105 hk105 x5 y1 y2 y3 y4 y5 r H locs ls hw hl
      unfold f_R_sits_183
      refine lv_iadd hx hb dX12_sits_183 ?_
      refine W_bind fun z13 hz => ?_
      refine w_after (cells1 := 0) (slots1 := 0) (w_runV E kV_R_337 kc_X12_sits (ihd y1 y2 y3 (y4 + y5) M r ((fun z => (.inl none, M, z)) z13) (by rw [hz]; rfl)) ⟨by show 60 + 12 * d + 0 + 1 ≤ 60 + 12 * (d + 1) + 0; omega, by show 8 + (7 + 11) + (3000 + 400 * d + 0) ≤ 3000 + 400 * (d + 1) + 0; omega⟩ hw (w_recvR E hw on) rfl hl.1 rfl (Nat.le_of_ble_eq_true rfl) dX12_sits_184 ⟨Nat.le_refl _, Nat.le_refl _⟩) hw rfl (Nat.le_refl _) (Nat.le_refl _) (fun H locs hw => ?_)
      refine W.eq (g2 := F0 m 187 ls []) rfl ?_
      have hw : w_W G M z13 s H locs := hw
      refine lv_iload_n hx hb dX12_sits_187 rfl (lv_at hl 2 rfl) ?_
      refine cx_if_ne (tgt := 192) E dX12_sits_188 (by decide) (fun _ => ?_) (fun _ => ?_)
      · refine lv_iinc (v := x5 + 1) (lv' := [(5, .int (x5 + 1)), (0, .ref (g_r G)), (1, .int a0), (2, .int a1), (3, .int a2), (4, .int a3)]) hx hb dX12_sits_192 hl (k := 5) rfl rfl (by decide) rfl (fun ls hl => ?_)
        refine lv_goto (tgt := 105) hx hb dX12_sits_195 (by decide) ?_
        exact hk105 (x5 + 1) z13 _ _ _ hw (lv_sub hl [1, 2, 3, 4, 5, 0] rfl)
      · exact p_vret E hw hr (Nat.le_of_ble_eq_true rfl) (Nat.le_of_ble_eq_true rfl) rfl dX12_sits_191
    have w105 : ∀ (n : Nat) (x5 : Int32) (r : Rho) (H : Heap) (locs : List Loc) (ls : Array Slot), w_W G M r s H locs → lv_has ls 7 [(0, .ref (g_r G)), (1, .int a0), (2, .int a1), (3, .int a2), (4, .int a3), (5, .int x5)] → W p l e (rm_R_sits (d + 1)) s m args below meth c H locs 0 0 (PQ G below args s (rm_R_sits (d + 1)).cells (rm_R_sits (d + 1)).slots (fun z => (.inl none, M, z)) (f_R_sits_105 N (f_R_sits N d) a0 a1 a2 a3 n x5 r)) (F0 m 105 ls []) := by
      intro n
      induction n with
      | zero => intros; exact W_none
      | succ n ih =>
        intro x5 r H locs ls hw hl
        rw [f_R_sits_105]
        refine lv_iload hx hb dX12_sits_105 (lv_at hl 5 rfl) ?_
        refine lv_aload_n hx hb dX12_sits_107 rfl (lv_at hl 0 rfl) ?_
        refine rx_getA E hw on kF_R_7_11 (by decide) dX12_sits_108 ?_
        refine lv_iconst (v := 5) hx hb dX12_sits_111 (by decide) ?_
        refine rx_iald E hw on (by decide) dX12_sits_112 (fun v6 => ?_)
        refine cx_icmp_ge (tgt := 198) E dX12_sits_113 (by decide) (fun _ => ?_) (fun _ => ?_)
        · exact p_vret E hw hr (Nat.le_of_ble_eq_true rfl) (Nat.le_of_ble_eq_true rfl) rfl dX12_sits_198
        · refine lv_iload_n hx hb dX12_sits_116 rfl (lv_at hl 1 rfl) ?_
          refine lv_iload hx hb dX12_sits_117 (lv_at hl 5 rfl) ?_
          refine W_bind fun z7 hz => ?_
          refine w_after (cells1 := 0) (slots1 := 0) (w_runS E kS_R_305 kc_X12_isOf (t_R_isOf l hfl G a0 x5 M r ((fun z => (.inl (some (.int z)), M, r)) z7) (by rw [hz]; rfl)) ⟨by show 0 + 1 ≤ 60 + 12 * (d + 1) + 0; omega, by show 8 + (2 + 11) + (0) ≤ 3000 + 400 * (d + 1) + 0; omega⟩ hw rfl hl.1 rfl (Nat.le_of_ble_eq_true rfl) dX12_sits_119 ⟨Nat.le_refl _, Nat.le_refl _⟩) hw rfl (Nat.le_refl _) (Nat.le_refl _) (fun H locs hw => ?_)
          refine W.eq (g2 := F0 m 122 ls [.int z7]) rfl ?_
          have hw : w_W G M r s H locs := hw
          refine cx_if_ne (tgt := 128) E dX12_sits_122 (by decide) (fun _ => ?_) (fun _ => ?_)
          · refine lv_aload_n hx hb dX12_sits_128 rfl (lv_at hl 0 rfl) ?_
            refine rx_getA E hw on kF_R_44_11 (by decide) dX12_sits_129 ?_
            refine lv_iload_n hx hb dX12_sits_132 rfl (lv_at hl 2 rfl) ?_
            refine lv_iload hx hb dX12_sits_133 (lv_at hl 5 rfl) ?_
            refine rx_iast E hw on (by decide) dX12_sits_135 (fun r8 H locs hw => ?_)
            refine lv_aload_n hx hb dX12_sits_136 rfl (lv_at hl 0 rfl) ?_
            refine lv_iload_n hx hb dX12_sits_137 rfl (lv_at hl 1 rfl) ?_
            refine lv_iconst (v := 1) hx hb dX12_sits_138 (by decide) ?_
            refine lv_iload hx hb dX12_sits_139 (lv_at hl 5 rfl) ?_
            refine lv_ishl hx hb dX12_sits_141 ?_
            refine lv_iconst (v := (-1)) hx hb dX12_sits_142 (by decide) ?_
            refine lv_ixor hx hb dX12_sits_143 ?_
            refine lv_iand hx hb dX12_sits_144 ?_
            refine lv_iload_n hx hb dX12_sits_145 rfl (lv_at hl 2 rfl) ?_
            refine lv_iconst (v := 1) hx hb dX12_sits_146 (by decide) ?_
            refine lv_iadd hx hb dX12_sits_147 ?_
            refine lv_iload_n hx hb dX12_sits_148 rfl (lv_at hl 3 rfl) ?_
            refine lv_iload hx hb dX12_sits_149 (lv_at hl 4 rfl) ?_
            refine lv_iload_n hx hb dX12_sits_151 rfl (lv_at hl 2 rfl) ?_
            refine cx_if_le (tgt := 182) E dX12_sits_152 (by decide) (fun _ => ?_) (fun _ => ?_)
            · refine lv_iconst (v := 0) hx hb dX12_sits_182 (by decide) ?_
              exact w183 (f_R_sits_105 N (f_R_sits N d) a0 a1 a2 a3 n) ih x5 (a0 &&& ((1 <<< (x5 &&& 31)) ^^^ (-1))) (a1 + 1) a2 a3 0 r8 _ _ _ hw (lv_sub hl [0, 1, 2, 3, 4, 5] rfl)
            · refine lv_aload_n hx hb dX12_sits_155 rfl (lv_at hl 0 rfl) ?_
              refine lv_aload_n hx hb dX12_sits_156 rfl (lv_at hl 0 rfl) ?_
              refine lv_aload_n hx hb dX12_sits_157 rfl (lv_at hl 0 rfl) ?_
              refine rx_getA E hw on kF_R_44_11 (by decide) dX12_sits_158 ?_
              refine lv_iload_n hx hb dX12_sits_161 rfl (lv_at hl 2 rfl) ?_
              refine lv_iconst (v := 1) hx hb dX12_sits_162 (by decide) ?_
              refine lv_isub hx hb dX12_sits_163 ?_
              refine rx_iald E hw on (by decide) dX12_sits_164 (fun v9 => ?_)
              refine lv_iconst (v := 1) hx hb dX12_sits_165 (by decide) ?_
              refine W_bind fun z10 hz => ?_
              refine w_after (cells1 := 0) (slots1 := 0) (w_runV E kV_R_257 kc_X12_of (t_R_of l hfl G on v9 1 M r8 ((fun z => (.inl (some (.int z)), M, r8)) z10) (by rw [hz]; rfl)) ⟨by show 0 + 1 ≤ 60 + 12 * (d + 1) + 0; omega, by show 8 + (3 + 11) + (0) ≤ 3000 + 400 * (d + 1) + 0; omega⟩ hw (w_recvR E hw on) rfl hl.1 rfl (Nat.le_of_ble_eq_true rfl) dX12_sits_166 ⟨Nat.le_refl _, Nat.le_refl _⟩) hw rfl (Nat.le_refl _) (Nat.le_refl _) (fun H locs hw => ?_)
              refine W.eq (g2 := F0 m 169 ls [.int z10, .ref (g_r G), .int a3, .int a2, .int (a1 + 1), .int (a0 &&& ((1 <<< (x5 &&& 31)) ^^^ (-1))), .ref (g_r G)]) rfl ?_
              have hw : w_W G M r8 s H locs := hw
              refine lv_aload_n hx hb dX12_sits_169 rfl (lv_at hl 0 rfl) ?_
              refine lv_iload hx hb dX12_sits_170 (lv_at hl 5 rfl) ?_
              refine lv_iconst (v := 1) hx hb dX12_sits_172 (by decide) ?_
              refine W_bind fun z11 hz => ?_
              refine w_after (cells1 := 0) (slots1 := 0) (w_runV E kV_R_257 kc_X12_of (t_R_of l hfl G on x5 1 M r8 ((fun z => (.inl (some (.int z)), M, r8)) z11) (by rw [hz]; rfl)) ⟨by show 0 + 1 ≤ 60 + 12 * (d + 1) + 0; omega, by show 8 + (3 + 11) + (0) ≤ 3000 + 400 * (d + 1) + 0; omega⟩ hw (w_recvR E hw on) rfl hl.1 rfl (Nat.le_of_ble_eq_true rfl) dX12_sits_173 ⟨Nat.le_refl _, Nat.le_refl _⟩) hw rfl (Nat.le_refl _) (Nat.le_refl _) (fun H locs hw => ?_)
              refine W.eq (g2 := F0 m 176 ls [.int z11, .int z10, .ref (g_r G), .int a3, .int a2, .int (a1 + 1), .int (a0 &&& ((1 <<< (x5 &&& 31)) ^^^ (-1))), .ref (g_r G)]) rfl ?_
              have hw : w_W G M r8 s H locs := hw
              refine W_bind fun z12 hz => ?_
              refine w_after (cells1 := 0) (slots1 := 0) (w_runV E kV_R_263 kc_X12_costOf (t_R_costOf l hfl G on z10 z11 M r8 ((fun z => (.inl (some (.int z)), M, r8)) z12) (by rw [hz]; rfl)) ⟨by show 1 + 1 ≤ 60 + 12 * (d + 1) + 0; omega, by show 8 + (4 + 11) + (20) ≤ 3000 + 400 * (d + 1) + 0; omega⟩ hw (w_recvR E hw on) rfl hl.1 rfl (Nat.le_of_ble_eq_true rfl) dX12_sits_176 ⟨Nat.le_refl _, Nat.le_refl _⟩) hw rfl (Nat.le_refl _) (Nat.le_refl _) (fun H locs hw => ?_)
              refine W.eq (g2 := F0 m 179 ls [.int z12, .int a3, .int a2, .int (a1 + 1), .int (a0 &&& ((1 <<< (x5 &&& 31)) ^^^ (-1))), .ref (g_r G)]) rfl ?_
              have hw : w_W G M r8 s H locs := hw
              refine lv_goto (tgt := 183) hx hb dX12_sits_179 (by decide) ?_
              exact w183 (f_R_sits_105 N (f_R_sits N d) a0 a1 a2 a3 n) ih x5 (a0 &&& ((1 <<< (x5 &&& 31)) ^^^ (-1))) (a1 + 1) a2 a3 z12 r8 _ _ _ hw (lv_sub hl [0, 1, 2, 3, 4, 5] rfl)
          · refine lv_goto (tgt := 192) hx hb dX12_sits_125 (by decide) ?_
            refine lv_iinc (v := x5 + 1) (lv' := [(5, .int (x5 + 1)), (0, .ref (g_r G)), (1, .int a0), (2, .int a1), (3, .int a2), (4, .int a3)]) hx hb dX12_sits_192 hl (k := 5) rfl rfl (by decide) rfl (fun ls hl => ?_)
            refine lv_goto (tgt := 105) hx hb dX12_sits_195 (by decide) ?_
            exact ih (x5 + 1) r _ _ _ hw (lv_sub hl [1, 2, 3, 4, 5, 0] rfl)
    have w75 : ∀ (n : Nat) (x6 : Int32) (r : Rho) (H : Heap) (locs : List Loc) (ls : Array Slot), w_W G M r s H locs → lv_has ls 7 [(0, .ref (g_r G)), (3, .int a2), (6, .int x6)] → W p l e (rm_R_sits (d + 1)) s m args below meth c H locs 0 0 (PQ G below args s (rm_R_sits (d + 1)).cells (rm_R_sits (d + 1)).slots (fun z => (.inl none, M, z)) (f_R_sits_75 N (f_R_sits N d) a0 a1 a2 a3 n x6 r)) (F0 m 75 ls []) := by
      intro n
      induction n with
      | zero => intros; exact W_none
      | succ n ih =>
        intro x6 r H locs ls hw hl
        rw [f_R_sits_75]
        refine lv_iload hx hb dX12_sits_75 (lv_at hl 2 rfl) ?_
        refine lv_iload_n hx hb dX12_sits_77 rfl (lv_at hl 1 rfl) ?_
        refine cx_icmp_ge (tgt := 101) E dX12_sits_78 (by decide) (fun _ => ?_) (fun _ => ?_)
        · exact p_vret E hw hr (Nat.le_of_ble_eq_true rfl) (Nat.le_of_ble_eq_true rfl) rfl dX12_sits_101
        · refine lv_aload_n hx hb dX12_sits_81 rfl (lv_at hl 0 rfl) ?_
          refine rx_getA E hw on kF_R_47_11 (by decide) dX12_sits_82 ?_
          refine lv_iload hx hb dX12_sits_85 (lv_at hl 2 rfl) ?_
          refine lv_aload_n hx hb dX12_sits_87 rfl (lv_at hl 0 rfl) ?_
          refine rx_getA E hw on kF_R_44_11 (by decide) dX12_sits_88 ?_
          refine lv_iload hx hb dX12_sits_91 (lv_at hl 2 rfl) ?_
          refine rx_iald E hw on (by decide) dX12_sits_93 (fun v14 => ?_)
          refine rx_iast E hw on (by decide) dX12_sits_94 (fun r15 H locs hw => ?_)
          refine lv_iinc (v := x6 + 1) (lv' := [(6, .int (x6 + 1)), (0, .ref (g_r G)), (3, .int a2)]) hx hb dX12_sits_95 hl (k := 2) rfl rfl (by decide) rfl (fun ls hl => ?_)
          refine lv_goto (tgt := 75) hx hb dX12_sits_98 (by decide) ?_
          exact ih (x6 + 1) r15 _ _ _ hw (lv_sub hl [1, 2, 0] rfl)
    have w53 : ∀ (y0 : Int32) (y1 : Int32) (r : Rho) (H : Heap) (locs : List Loc) (ls : Array Slot), w_W G M r s H locs → lv_has ls 7 [(0, .ref (g_r G)), (3, .int a2)] → W p l e (rm_R_sits (d + 1)) s m args below meth c H locs 0 0 (PQ G below args s (rm_R_sits (d + 1)).cells (rm_R_sits (d + 1)).slots (fun z => (.inl none, M, z)) (f_R_sits_53 N (f_R_sits N d) a0 a1 a2 a3 y0 y1 r)) (F0 m 53 ls [.int y1, .int y0]) := by
      intro y0 y1 r H locs ls hw hl
      unfold f_R_sits_53
      refine lv_iadd hx hb dX12_sits_53 ?_
      refine lv_istore (lv' := [(5, .int (y0 + y1)), (0, .ref (g_r G)), (3, .int a2)]) hx hb dX12_sits_54 hl (by decide) rfl (fun ls hl => ?_)
      refine lv_iload hx hb dX12_sits_56 (lv_at hl 0 rfl) ?_
      refine lv_aload_n hx hb dX12_sits_58 rfl (lv_at hl 1 rfl) ?_
      refine rx_getI E hw on kF_R_334_11 (by decide) dX12_sits_59 ?_
      refine cx_icmp_lt (tgt := 66) E dX12_sits_62 (by decide) (fun _ => ?_) (fun _ => ?_)
      · refine lv_aload_n hx hb dX12_sits_66 rfl (lv_at hl 1 rfl) ?_
        refine lv_iload hx hb dX12_sits_67 (lv_at hl 0 rfl) ?_
        refine rx_putI E hw on kF_R_334_11 (by decide) kT_11_26 dX12_sits_69 (fun H locs hw => ?_)
        refine lv_iconst (v := 0) hx hb dX12_sits_72 (by decide) ?_
        refine lv_istore (lv' := [(6, .int 0), (5, .int (y0 + y1)), (0, .ref (g_r G)), (3, .int a2)]) hx hb dX12_sits_73 hl (by decide) rfl (fun ls hl => ?_)
        exact w75  N 0 (r_set r 26 (y0 + y1)) _ _ _ hw (lv_sub hl [2, 3, 0] rfl)
      · exact p_vret E hw hr (Nat.le_of_ble_eq_true rfl) (Nat.le_of_ble_eq_true rfl) rfl dX12_sits_65
    rw [f_R_sits]
    refine lv_iload hx hb dX12_sits_0 (lv_at hl 4 rfl) ?_
    refine lv_aload_n hx hb dX12_sits_2 rfl (lv_at hl 0 rfl) ?_
    refine rx_getI E hw on kF_R_334_11 (by decide) dX12_sits_3 ?_
    refine cx_icmp_le (tgt := 10) E dX12_sits_6 (by decide) (fun _ => ?_) (fun _ => ?_)
    · refine lv_iload_n hx hb dX12_sits_10 rfl (lv_at hl 1 rfl) ?_
      refine cx_if_ne (tgt := 102) E dX12_sits_11 (by decide) (fun _ => ?_) (fun _ => ?_)
      · refine lv_iconst (v := 0) hx hb dX12_sits_102 (by decide) ?_
        refine lv_istore (lv' := [(5, .int 0), (0, .ref (g_r G)), (1, .int a0), (2, .int a1), (3, .int a2), (4, .int a3)]) hx hb dX12_sits_103 hl (by decide) rfl (fun ls hl => ?_)
        exact w105  N 0 r _ _ _ hw (lv_sub hl [1, 2, 3, 4, 5, 0] rfl)
      · refine lv_iload hx hb dX12_sits_14 (lv_at hl 4 rfl) ?_
        refine lv_iload_n hx hb dX12_sits_16 rfl (lv_at hl 3 rfl) ?_
        refine lv_iconst (v := 2) hx hb dX12_sits_17 (by decide) ?_
        refine cx_icmp_le (tgt := 52) E dX12_sits_18 (by decide) (fun _ => ?_) (fun _ => ?_)
        · refine lv_iconst (v := 0) hx hb dX12_sits_52 (by decide) ?_
          exact w53  a3 0 r _ _ _ hw (lv_sub hl [0, 3] rfl)
        · refine lv_aload_n hx hb dX12_sits_21 rfl (lv_at hl 0 rfl) ?_
          refine lv_aload_n hx hb dX12_sits_22 rfl (lv_at hl 0 rfl) ?_
          refine lv_aload_n hx hb dX12_sits_23 rfl (lv_at hl 0 rfl) ?_
          refine rx_getA E hw on kF_R_44_11 (by decide) dX12_sits_24 ?_
          refine lv_iload_n hx hb dX12_sits_27 rfl (lv_at hl 3 rfl) ?_
          refine lv_iconst (v := 1) hx hb dX12_sits_28 (by decide) ?_
          refine lv_isub hx hb dX12_sits_29 ?_
          refine rx_iald E hw on (by decide) dX12_sits_30 (fun v1 => ?_)
          refine lv_iconst (v := 1) hx hb dX12_sits_31 (by decide) ?_
          refine W_bind fun z2 hz => ?_
          refine w_after (cells1 := 0) (slots1 := 0) (w_runV E kV_R_257 kc_X12_of (t_R_of l hfl G on v1 1 M r ((fun z => (.inl (some (.int z)), M, r)) z2) (by rw [hz]; rfl)) ⟨by show 0 + 1 ≤ 60 + 12 * (d + 1) + 0; omega, by show 8 + (3 + 11) + (0) ≤ 3000 + 400 * (d + 1) + 0; omega⟩ hw (w_recvR E hw on) rfl hl.1 rfl (Nat.le_of_ble_eq_true rfl) dX12_sits_32 ⟨Nat.le_refl _, Nat.le_refl _⟩) hw rfl (Nat.le_refl _) (Nat.le_refl _) (fun H locs hw => ?_)
          refine W.eq (g2 := F0 m 35 ls [.int z2, .ref (g_r G), .int a3]) rfl ?_
          have hw : w_W G M r s H locs := hw
          refine lv_aload_n hx hb dX12_sits_35 rfl (lv_at hl 0 rfl) ?_
          refine lv_aload_n hx hb dX12_sits_36 rfl (lv_at hl 0 rfl) ?_
          refine rx_getA E hw on kF_R_44_11 (by decide) dX12_sits_37 ?_
          refine lv_iconst (v := 0) hx hb dX12_sits_40 (by decide) ?_
          refine rx_iald E hw on (by decide) dX12_sits_41 (fun v3 => ?_)
          refine lv_iconst (v := 1) hx hb dX12_sits_42 (by decide) ?_
          refine W_bind fun z4 hz => ?_
          refine w_after (cells1 := 0) (slots1 := 0) (w_runV E kV_R_257 kc_X12_of (t_R_of l hfl G on v3 1 M r ((fun z => (.inl (some (.int z)), M, r)) z4) (by rw [hz]; rfl)) ⟨by show 0 + 1 ≤ 60 + 12 * (d + 1) + 0; omega, by show 8 + (3 + 11) + (0) ≤ 3000 + 400 * (d + 1) + 0; omega⟩ hw (w_recvR E hw on) rfl hl.1 rfl (Nat.le_of_ble_eq_true rfl) dX12_sits_43 ⟨Nat.le_refl _, Nat.le_refl _⟩) hw rfl (Nat.le_refl _) (Nat.le_refl _) (fun H locs hw => ?_)
          refine W.eq (g2 := F0 m 46 ls [.int z4, .int z2, .ref (g_r G), .int a3]) rfl ?_
          have hw : w_W G M r s H locs := hw
          refine W_bind fun z5 hz => ?_
          refine w_after (cells1 := 0) (slots1 := 0) (w_runV E kV_R_263 kc_X12_costOf (t_R_costOf l hfl G on z2 z4 M r ((fun z => (.inl (some (.int z)), M, r)) z5) (by rw [hz]; rfl)) ⟨by show 1 + 1 ≤ 60 + 12 * (d + 1) + 0; omega, by show 8 + (4 + 11) + (20) ≤ 3000 + 400 * (d + 1) + 0; omega⟩ hw (w_recvR E hw on) rfl hl.1 rfl (Nat.le_of_ble_eq_true rfl) dX12_sits_46 ⟨Nat.le_refl _, Nat.le_refl _⟩) hw rfl (Nat.le_refl _) (Nat.le_refl _) (fun H locs hw => ?_)
          refine W.eq (g2 := F0 m 49 ls [.int z5, .int a3]) rfl ?_
          have hw : w_W G M r s H locs := hw
          refine lv_goto (tgt := 53) hx hb dX12_sits_49 (by decide) ?_
          exact w53  a3 z5 r _ _ _ hw (lv_sub hl [0, 3] rfl)
    · exact p_vret E hw hr (Nat.le_of_ble_eq_true rfl) (Nat.le_of_ble_eq_true rfl) rfl dX12_sits_9
set_option maxHeartbeats 4000000 in
set_option maxRecDepth 100000 in
theorem t_R_table (l : Launch) (hfl : l.stackTraces = false) (G : wG) (on : g_on G = true) (N : Nat) (a0 : Int32) (a1 : Int32) (M : Mem) (r : Rho) : Ctr l yX12_table (wWs yX12_table cX12_table 5 (some .int)) rm_R_table rm_R_table.cells rm_R_table.slots G [.ref (g_r G), .int a0, .int a1] M r ((f_R_table N a0 a1 r).map (fun z => (.inl (some (.int z.1)), M, z.2))) := by
  refine Ctr.ofF (own := "CheekTownModel") (by decide +kernel) hfl rfl (Nat.le_of_ble_eq_true rfl) (fun p e s m args below meth c E hno hr hnm hw ls hl => ?_)
  obtain ⟨hx, hb, hts, hown, hml, hTT, -⟩ := id E
  have hl : lv_has ls 5 [(0, .ref (g_r G)), (1, .int a0), (2, .int a1)] := hl
  obtain ⟨H, hH⟩ : ∃ H, H = s.heap := ⟨_, rfl⟩
  obtain ⟨locs, hlo⟩ : ∃ L : List Loc, L = [] := ⟨_, rfl⟩
  rw [← hH, ← hlo]
  rw [← hlo] at hw
  replace hw : w_W G M r s H locs := by rw [hH]; exact hw
  have w55 : ∀ (x4 : Int32) (r : Rho) (H : Heap) (locs : List Loc) (ls : Array Slot), w_W G M r s H locs → lv_has ls 5 [(0, .ref (g_r G)), (2, .int a1), (4, .int x4)] → W p l e rm_R_table s m args below meth c H locs 0 0 (PQ G below args s rm_R_table.cells rm_R_table.slots (fun z => (.inl (some (.int z.1)), M, z.2)) (f_R_table_55 N a0 a1 x4 r)) (F0 m 55 ls []) := by
    intro x4 r H locs ls hw hl
    unfold f_R_table_55
    refine lv_iload_n hx hb dX12_table_55 rfl (lv_at hl 1 rfl) ?_
    refine lv_iconst (v := (-1)) hx hb dX12_table_56 (by decide) ?_
    refine cx_icmp_ne (tgt := 74) E dX12_table_57 (by decide) (fun _ => ?_) (fun _ => ?_)
    · refine lv_iload_n hx hb dX12_table_74 rfl (lv_at hl 1 rfl) ?_
      refine lv_iconst (v := 0) hx hb dX12_table_75 (by decide) ?_
      refine lv_iload hx hb dX12_table_76 (lv_at hl 2 rfl) ?_
      refine lv_iconst (v := 1) hx hb dX12_table_78 (by decide) ?_
      refine lv_isub hx hb dX12_table_79 ?_
      refine W_bind fun z4 hz => ?_
      refine w_after (cells1 := 0) (slots1 := 0) (w_runS E kS_R_59 kc_X12_isIn (t_R_isIn l hfl G a1 0 (x4 - 1) M r ((fun z => (.inl (some (.int z)), M, r)) z4) (by rw [hz]; rfl)) ⟨Nat.le_of_ble_eq_true rfl, Nat.le_of_ble_eq_true rfl⟩ hw rfl hl.1 rfl (Nat.le_of_ble_eq_true rfl) dX12_table_80 ⟨Nat.le_of_ble_eq_true rfl, Nat.le_of_ble_eq_true rfl⟩) hw rfl (Nat.le_of_ble_eq_true rfl) (Nat.le_of_ble_eq_true rfl) (fun H locs hw => ?_)
      refine W.eq (g2 := F0 m 83 ls [.int z4]) rfl ?_
      have hw : w_W G M r s H locs := hw
      refine cx_if_eq (tgt := 95) E dX12_table_83 (by decide) (fun _ => ?_) (fun _ => ?_)
      · refine lv_iconst (v := (-1)) hx hb dX12_table_95 (by decide) ?_
        exact p_iret E hw hr (Nat.le_of_ble_eq_true rfl) (Nat.le_of_ble_eq_true rfl) rfl dX12_table_96
      · refine lv_aload_n hx hb dX12_table_86 rfl (lv_at hl 0 rfl) ?_
        refine rx_getA E hw on kF_R_47_11 (by decide) dX12_table_87 ?_
        refine lv_iload_n hx hb dX12_table_90 rfl (lv_at hl 1 rfl) ?_
        refine rx_iald E hw on (by decide) dX12_table_91 (fun v5 => ?_)
        refine lv_goto (tgt := 96) hx hb dX12_table_92 (by decide) ?_
        exact p_iret E hw hr (Nat.le_of_ble_eq_true rfl) (Nat.le_of_ble_eq_true rfl) rfl dX12_table_96
    · refine lv_iload hx hb dX12_table_60 (lv_at hl 2 rfl) ?_
      refine cx_if_ne (tgt := 69) E dX12_table_62 (by decide) (fun _ => ?_) (fun _ => ?_)
      · refine lv_aload_n hx hb dX12_table_69 rfl (lv_at hl 0 rfl) ?_
        refine rx_getI E hw on kF_R_334_11 (by decide) dX12_table_70 ?_
        exact p_iret E hw hr (Nat.le_of_ble_eq_true rfl) (Nat.le_of_ble_eq_true rfl) rfl dX12_table_73
      · refine lv_iconst (v := 0) hx hb dX12_table_65 (by decide) ?_
        refine lv_goto (tgt := 73) hx hb dX12_table_66 (by decide) ?_
        exact p_iret E hw hr (Nat.le_of_ble_eq_true rfl) (Nat.le_of_ble_eq_true rfl) rfl dX12_table_73
  unfold f_R_table
  refine lv_aload_n hx hb dX12_table_0 rfl (lv_at hl 0 rfl) ?_
  refine lv_iconst (v := 0) hx hb dX12_table_1 (by decide) ?_
  refine rx_putI E hw on kF_R_56_11 (by decide) kT_11_0 dX12_table_2 (fun H locs hw => ?_)
  refine lv_iload_n hx hb dX12_table_5 rfl (lv_at hl 1 rfl) ?_
  refine lv_iconst (v := 1) hx hb dX12_table_6 (by decide) ?_
  refine lv_aload_n hx hb dX12_table_7 rfl (lv_at hl 0 rfl) ?_
  refine rx_getA E hw on kF_R_7_11 (by decide) dX12_table_8 ?_
  refine lv_iconst (v := 5) hx hb dX12_table_11 (by decide) ?_
  refine rx_iald E hw on (by decide) dX12_table_12 (fun v1 => ?_)
  refine lv_ishl hx hb dX12_table_13 ?_
  refine lv_iconst (v := 1) hx hb dX12_table_14 (by decide) ?_
  refine lv_isub hx hb dX12_table_15 ?_
  refine lv_iand hx hb dX12_table_16 ?_
  refine lv_istore_n (lv' := [(3, .int (a0 &&& ((1 <<< (v1 &&& 31)) - 1))), (0, .ref (g_r G)), (1, .int a0), (2, .int a1)]) hx hb dX12_table_17 rfl hl (by decide) rfl (fun ls hl => ?_)
  refine lv_iload_n hx hb dX12_table_18 rfl (lv_at hl 0 rfl) ?_
  refine W_bind fun z2 hz => ?_
  refine w_after (cells1 := 0) (slots1 := 0) (w_runS E kS_R_340 kc_X12_bits (t_R_bits l hfl G N (a0 &&& ((1 <<< (v1 &&& 31)) - 1)) M (r_set r 0 0) ((fun z => (.inl (some (.int z)), M, (r_set r 0 0))) z2) (by rw [hz]; rfl)) ⟨Nat.le_of_ble_eq_true rfl, Nat.le_of_ble_eq_true rfl⟩ hw rfl hl.1 rfl (Nat.le_of_ble_eq_true rfl) dX12_table_19 ⟨Nat.le_of_ble_eq_true rfl, Nat.le_of_ble_eq_true rfl⟩) hw rfl (Nat.le_of_ble_eq_true rfl) (Nat.le_of_ble_eq_true rfl) (fun H locs hw => ?_)
  refine W.eq (g2 := F0 m 22 ls [.int z2]) rfl ?_
  have hw : w_W G M (r_set r 0 0) s H locs := hw
  refine lv_istore (lv' := [(4, .int z2), (3, .int (a0 &&& ((1 <<< (v1 &&& 31)) - 1))), (0, .ref (g_r G)), (1, .int a0), (2, .int a1)]) hx hb dX12_table_22 hl (by decide) rfl (fun ls hl => ?_)
  refine lv_iload hx hb dX12_table_24 (lv_at hl 0 rfl) ?_
  refine lv_bipush (v := 8) hx hb dX12_table_26 (by decide) ?_
  refine cx_icmp_le (tgt := 34) E dX12_table_28 (by decide) (fun _ => ?_) (fun _ => ?_)
  · refine lv_aload_n hx hb dX12_table_34 rfl (lv_at hl 2 rfl) ?_
    refine lv_ldcw hx hb hown (hts _ kC_R_343) dX12_table_35 ?_
    refine rx_putI E hw on kF_R_334_11 (by decide) kT_11_26 dX12_table_38 (fun H locs hw => ?_)
    refine lv_iload hx hb dX12_table_41 (lv_at hl 0 rfl) ?_
    refine cx_if_le (tgt := 55) E dX12_table_43 (by decide) (fun _ => ?_) (fun _ => ?_)
    · exact w55  z2 (r_set (r_set r 0 0) 26 1000000) _ _ _ hw (lv_sub hl [2, 4, 0] rfl)
    · refine lv_aload_n hx hb dX12_table_46 rfl (lv_at hl 2 rfl) ?_
      refine lv_iload_n hx hb dX12_table_47 rfl (lv_at hl 1 rfl) ?_
      refine lv_iconst (v := 0) hx hb dX12_table_48 (by decide) ?_
      refine lv_iload hx hb dX12_table_49 (lv_at hl 0 rfl) ?_
      refine lv_iconst (v := 0) hx hb dX12_table_51 (by decide) ?_
      refine W_bind fun z3 hz => ?_
      refine w_after (cells1 := 0) (slots1 := 0) (w_runV E kV_R_337 kc_X12_sits (t_R_sits l hfl G on N 10 (a0 &&& ((1 <<< (v1 &&& 31)) - 1)) 0 z2 0 M (r_set (r_set r 0 0) 26 1000000) ((fun z => (.inl none, M, z)) z3) (by rw [hz]; rfl)) ⟨Nat.le_of_ble_eq_true rfl, Nat.le_of_ble_eq_true rfl⟩ hw (w_recvR E hw on) rfl hl.1 rfl (Nat.le_of_ble_eq_true rfl) dX12_table_52 ⟨Nat.le_of_ble_eq_true rfl, Nat.le_of_ble_eq_true rfl⟩) hw rfl (Nat.le_of_ble_eq_true rfl) (Nat.le_of_ble_eq_true rfl) (fun H locs hw => ?_)
      refine W.eq (g2 := F0 m 55 ls []) rfl ?_
      have hw : w_W G M z3 s H locs := hw
      exact w55  z2 z3 _ _ _ hw (lv_sub hl [2, 4, 0] rfl)
  · refine lv_bipush (v := (-3)) hx hb dX12_table_31 (by decide) ?_
    exact p_iret E hw hr (Nat.le_of_ble_eq_true rfl) (Nat.le_of_ble_eq_true rfl) rfl dX12_table_33
set_option maxHeartbeats 4000000 in
set_option maxRecDepth 100000 in
theorem t_R_pairsOf (l : Launch) (hfl : l.stackTraces = false) (G : wG) (on : g_on G = true) (N : Nat) : ∀ (d : Nat) (a0 : Int32) (M : Mem) (r : Rho), Ctr l yX12_pairsOf (wWs yX12_pairsOf cX12_pairsOf 6 (some .int)) (rm_R_pairsOf d) (rm_R_pairsOf d).cells (rm_R_pairsOf d).slots G [.ref (g_r G), .int a0] M r ((f_R_pairsOf N d a0 r).map (fun z => (.inl (some (.int z.1)), M, z.2))) := by
  intro d
  induction d with
  | zero => intros; intro x hx; cases hx
  | succ d ihd =>
    intro a0 M r
    refine Ctr.ofF (own := "CheekTownModel") (by decide +kernel) hfl rfl (Nat.le_of_ble_eq_true rfl) (fun p e s m args below meth c E hno hr hnm hw ls hl => ?_)
    obtain ⟨hx, hb, hts, hown, hml, hTT, -⟩ := id E
    have hl : lv_has ls 6 [(0, .ref (g_r G)), (1, .int a0)] := hl
    obtain ⟨H, hH⟩ : ∃ H, H = s.heap := ⟨_, rfl⟩
    obtain ⟨locs, hlo⟩ : ∃ L : List Loc, L = [] := ⟨_, rfl⟩
    rw [← hH, ← hlo]
    rw [← hlo] at hw
    replace hw : w_W G M r s H locs := by rw [hH]; exact hw
    have w59 : ∀ (n : Nat) (x2 : Int32) (x3 : Int32) (x4 : Int32) (x5 : Int32) (r : Rho) (H : Heap) (locs : List Loc) (ls : Array Slot), w_W G M r s H locs → lv_has ls 6 [(0, .ref (g_r G)), (1, .int a0), (2, .int x2), (3, .int x3), (4, .int x4), (5, .int x5)] → W p l e (rm_R_pairsOf (d + 1)) s m args below meth c H locs 0 0 (PQ G below args s (rm_R_pairsOf (d + 1)).cells (rm_R_pairsOf (d + 1)).slots (fun z => (.inl (some (.int z.1)), M, z.2)) (f_R_pairsOf_59 N (f_R_pairsOf N d) a0 n x2 x3 x4 x5 r)) (F0 m 59 ls []) := by
      intro n
      induction n with
      | zero => intros; exact W_none
      | succ n ih =>
        intro x2 x3 x4 x5 r H locs ls hw hl
        rw [f_R_pairsOf_59]
        refine lv_iload hx hb dX12_pairsOf_59 (lv_at hl 5 rfl) ?_
        refine lv_aload_n hx hb dX12_pairsOf_61 rfl (lv_at hl 0 rfl) ?_
        refine rx_getA E hw on kF_R_7_11 (by decide) dX12_pairsOf_62 ?_
        refine lv_iconst (v := 5) hx hb dX12_pairsOf_65 (by decide) ?_
        refine rx_iald E hw on (by decide) dX12_pairsOf_66 (fun v5 => ?_)
        refine cx_icmp_ge (tgt := 116) E dX12_pairsOf_67 (by decide) (fun _ => ?_) (fun _ => ?_)
        · refine lv_aload_n hx hb dX12_pairsOf_116 rfl (lv_at hl 0 rfl) ?_
          refine rx_getA E hw on kF_R_50_11 (by decide) dX12_pairsOf_117 ?_
          refine lv_iload_n hx hb dX12_pairsOf_120 rfl (lv_at hl 1 rfl) ?_
          refine lv_iload hx hb dX12_pairsOf_121 (lv_at hl 4 rfl) ?_
          refine rx_iast E hw on (by decide) dX12_pairsOf_123 (fun r6 H locs hw => ?_)
          refine lv_iload hx hb dX12_pairsOf_124 (lv_at hl 4 rfl) ?_
          exact p_iret E hw hr (Nat.le_of_ble_eq_true rfl) (Nat.le_of_ble_eq_true rfl) rfl dX12_pairsOf_126
        · refine lv_iload_n hx hb dX12_pairsOf_70 rfl (lv_at hl 3 rfl) ?_
          refine lv_iload hx hb dX12_pairsOf_71 (lv_at hl 5 rfl) ?_
          refine W_bind fun z7 hz => ?_
          refine w_after (cells1 := 0) (slots1 := 0) (w_runS E kS_R_305 kc_X12_isOf (t_R_isOf l hfl G x3 x5 M r ((fun z => (.inl (some (.int z)), M, r)) z7) (by rw [hz]; rfl)) ⟨by show 0 + 1 ≤ 60 + 12 * (d + 1) + 0; omega, by show 8 + (2 + 11) + (0) ≤ 3000 + 400 * (d + 1) + 0; omega⟩ hw rfl hl.1 rfl (Nat.le_of_ble_eq_true rfl) dX12_pairsOf_73 ⟨Nat.le_refl _, Nat.le_refl _⟩) hw rfl (Nat.le_refl _) (Nat.le_refl _) (fun H locs hw => ?_)
          refine W.eq (g2 := F0 m 76 ls [.int z7]) rfl ?_
          have hw : w_W G M r s H locs := hw
          refine cx_if_eq (tgt := 110) E dX12_pairsOf_76 (by decide) (fun _ => ?_) (fun _ => ?_)
          · refine lv_iinc (v := x5 + 1) (lv' := [(5, .int (x5 + 1)), (0, .ref (g_r G)), (1, .int a0), (2, .int x2), (3, .int x3), (4, .int x4)]) hx hb dX12_pairsOf_110 hl (k := 5) rfl rfl (by decide) rfl (fun ls hl => ?_)
            refine lv_goto (tgt := 59) hx hb dX12_pairsOf_113 (by decide) ?_
            exact ih x2 x3 x4 (x5 + 1) r _ _ _ hw (lv_sub hl [1, 2, 3, 4, 5, 0] rfl)
          · refine lv_aload_n hx hb dX12_pairsOf_79 rfl (lv_at hl 0 rfl) ?_
            refine lv_iload_n hx hb dX12_pairsOf_80 rfl (lv_at hl 2 rfl) ?_
            refine lv_iload hx hb dX12_pairsOf_81 (lv_at hl 5 rfl) ?_
            refine W_bind fun z8 hz => ?_
            refine w_after (cells1 := 0) (slots1 := 0) (w_runV E kV_R_148 kc_X12_areTied (t_R_areTied l hfl G on N x2 x5 M r ((fun z => (.inl (some (.int z)), M, r)) z8) (by rw [hz]; rfl)) ⟨by show 1 + 1 ≤ 60 + 12 * (d + 1) + 0; omega, by show 8 + (4 + 11) + (21) ≤ 3000 + 400 * (d + 1) + 0; omega⟩ hw (w_recvR E hw on) rfl hl.1 rfl (Nat.le_of_ble_eq_true rfl) dX12_pairsOf_83 ⟨Nat.le_refl _, Nat.le_refl _⟩) hw rfl (Nat.le_refl _) (Nat.le_refl _) (fun H locs hw => ?_)
            refine W.eq (g2 := F0 m 86 ls [.int z8]) rfl ?_
            have hw : w_W G M r s H locs := hw
            refine cx_if_eq (tgt := 110) E dX12_pairsOf_86 (by decide) (fun _ => ?_) (fun _ => ?_)
            · refine lv_iinc (v := x5 + 1) (lv' := [(5, .int (x5 + 1)), (0, .ref (g_r G)), (1, .int a0), (2, .int x2), (3, .int x3), (4, .int x4)]) hx hb dX12_pairsOf_110 hl (k := 5) rfl rfl (by decide) rfl (fun ls hl => ?_)
              refine lv_goto (tgt := 59) hx hb dX12_pairsOf_113 (by decide) ?_
              exact ih x2 x3 x4 (x5 + 1) r _ _ _ hw (lv_sub hl [1, 2, 3, 4, 5, 0] rfl)
            · refine lv_iload hx hb dX12_pairsOf_89 (lv_at hl 4 rfl) ?_
              refine lv_iconst (v := 1) hx hb dX12_pairsOf_91 (by decide) ?_
              refine lv_aload_n hx hb dX12_pairsOf_92 rfl (lv_at hl 0 rfl) ?_
              refine lv_iload_n hx hb dX12_pairsOf_93 rfl (lv_at hl 3 rfl) ?_
              refine lv_iconst (v := 1) hx hb dX12_pairsOf_94 (by decide) ?_
              refine lv_iload hx hb dX12_pairsOf_95 (lv_at hl 5 rfl) ?_
              refine lv_ishl hx hb dX12_pairsOf_97 ?_
              refine lv_iconst (v := (-1)) hx hb dX12_pairsOf_98 (by decide) ?_
              refine lv_ixor hx hb dX12_pairsOf_99 ?_
              refine lv_iand hx hb dX12_pairsOf_100 ?_
              refine W_bind fun z9 hz => ?_
              refine w_after (cells1 := 0) (slots1 := 0) (w_runV E kV_R_344 kc_X12_pairsOf (ihd (x3 &&& ((1 <<< (x5 &&& 31)) ^^^ (-1))) M r ((fun z => (.inl (some (.int z.1)), M, z.2)) z9) (by rw [hz]; rfl)) ⟨by show 60 + 12 * d + 0 + 1 ≤ 60 + 12 * (d + 1) + 0; omega, by show 8 + (6 + 11) + (3000 + 400 * d + 0) ≤ 3000 + 400 * (d + 1) + 0; omega⟩ hw (w_recvR E hw on) rfl hl.1 rfl (Nat.le_of_ble_eq_true rfl) dX12_pairsOf_101 ⟨Nat.le_refl _, Nat.le_refl _⟩) hw rfl (Nat.le_refl _) (Nat.le_refl _) (fun H locs hw => ?_)
              refine W.eq (g2 := F0 m 104 ls [.int z9.1, .int 1, .int x4]) rfl ?_
              have hw : w_W G M z9.2 s H locs := hw
              refine lv_iadd hx hb dX12_pairsOf_104 ?_
              refine W_bind fun z10 hz => ?_
              refine w_after (cells1 := 0) (slots1 := 0) (w_runS E kS_R_287 kc_X12_greater (t_R_greater l hfl G x4 (1 + z9.1) M z9.2 ((fun z => (.inl (some (.int z)), M, z9.2)) z10) (by rw [hz]; rfl)) ⟨by show 0 + 1 ≤ 60 + 12 * (d + 1) + 0; omega, by show 8 + (2 + 11) + (0) ≤ 3000 + 400 * (d + 1) + 0; omega⟩ hw rfl hl.1 rfl (Nat.le_of_ble_eq_true rfl) dX12_pairsOf_105 ⟨Nat.le_refl _, Nat.le_refl _⟩) hw rfl (Nat.le_refl _) (Nat.le_refl _) (fun H locs hw => ?_)
              refine W.eq (g2 := F0 m 108 ls [.int z10]) rfl ?_
              have hw : w_W G M z9.2 s H locs := hw
              refine lv_istore (lv' := [(4, .int z10), (0, .ref (g_r G)), (1, .int a0), (2, .int x2), (3, .int x3), (5, .int x5)]) hx hb dX12_pairsOf_108 hl (by decide) rfl (fun ls hl => ?_)
              refine lv_iinc (v := x5 + 1) (lv' := [(5, .int (x5 + 1)), (4, .int z10), (0, .ref (g_r G)), (1, .int a0), (2, .int x2), (3, .int x3)]) hx hb dX12_pairsOf_110 hl (k := 5) rfl rfl (by decide) rfl (fun ls hl => ?_)
              refine lv_goto (tgt := 59) hx hb dX12_pairsOf_113 (by decide) ?_
              exact ih x2 x3 z10 (x5 + 1) z9.2 _ _ _ hw (lv_sub hl [2, 3, 4, 5, 1, 0] rfl)
    have w25 : ∀ (n : Nat) (x2 : Int32) (r : Rho) (H : Heap) (locs : List Loc) (ls : Array Slot), w_W G M r s H locs → lv_has ls 6 [(0, .ref (g_r G)), (1, .int a0), (2, .int x2)] → W p l e (rm_R_pairsOf (d + 1)) s m args below meth c H locs 0 0 (PQ G below args s (rm_R_pairsOf (d + 1)).cells (rm_R_pairsOf (d + 1)).slots (fun z => (.inl (some (.int z.1)), M, z.2)) (f_R_pairsOf_25 N (f_R_pairsOf N d) a0 n x2 r)) (F0 m 25 ls []) := by
      intro n
      induction n with
      | zero => intros; exact W_none
      | succ n ih =>
        intro x2 r H locs ls hw hl
        rw [f_R_pairsOf_25]
        refine lv_iload_n hx hb dX12_pairsOf_25 rfl (lv_at hl 1 rfl) ?_
        refine lv_iload_n hx hb dX12_pairsOf_26 rfl (lv_at hl 2 rfl) ?_
        refine W_bind fun z3 hz => ?_
        refine w_after (cells1 := 0) (slots1 := 0) (w_runS E kS_R_305 kc_X12_isOf (t_R_isOf l hfl G a0 x2 M r ((fun z => (.inl (some (.int z)), M, r)) z3) (by rw [hz]; rfl)) ⟨by show 0 + 1 ≤ 60 + 12 * (d + 1) + 0; omega, by show 8 + (2 + 11) + (0) ≤ 3000 + 400 * (d + 1) + 0; omega⟩ hw rfl hl.1 rfl (Nat.le_of_ble_eq_true rfl) dX12_pairsOf_27 ⟨Nat.le_refl _, Nat.le_refl _⟩) hw rfl (Nat.le_refl _) (Nat.le_refl _) (fun H locs hw => ?_)
        refine W.eq (g2 := F0 m 30 ls [.int z3]) rfl ?_
        have hw : w_W G M r s H locs := hw
        refine cx_if_ne (tgt := 39) E dX12_pairsOf_30 (by decide) (fun _ => ?_) (fun _ => ?_)
        · refine lv_iload_n hx hb dX12_pairsOf_39 rfl (lv_at hl 1 rfl) ?_
          refine lv_iconst (v := 1) hx hb dX12_pairsOf_40 (by decide) ?_
          refine lv_iload_n hx hb dX12_pairsOf_41 rfl (lv_at hl 2 rfl) ?_
          refine lv_ishl hx hb dX12_pairsOf_42 ?_
          refine lv_iconst (v := (-1)) hx hb dX12_pairsOf_43 (by decide) ?_
          refine lv_ixor hx hb dX12_pairsOf_44 ?_
          refine lv_iand hx hb dX12_pairsOf_45 ?_
          refine lv_istore_n (lv' := [(3, .int (a0 &&& ((1 <<< (x2 &&& 31)) ^^^ (-1)))), (0, .ref (g_r G)), (1, .int a0), (2, .int x2)]) hx hb dX12_pairsOf_46 rfl hl (by decide) rfl (fun ls hl => ?_)
          refine lv_aload_n hx hb dX12_pairsOf_47 rfl (lv_at hl 1 rfl) ?_
          refine lv_iload_n hx hb dX12_pairsOf_48 rfl (lv_at hl 0 rfl) ?_
          refine W_bind fun z4 hz => ?_
          refine w_after (cells1 := 0) (slots1 := 0) (w_runV E kV_R_344 kc_X12_pairsOf (ihd (a0 &&& ((1 <<< (x2 &&& 31)) ^^^ (-1))) M r ((fun z => (.inl (some (.int z.1)), M, z.2)) z4) (by rw [hz]; rfl)) ⟨by show 60 + 12 * d + 0 + 1 ≤ 60 + 12 * (d + 1) + 0; omega, by show 8 + (6 + 11) + (3000 + 400 * d + 0) ≤ 3000 + 400 * (d + 1) + 0; omega⟩ hw (w_recvR E hw on) rfl hl.1 rfl (Nat.le_of_ble_eq_true rfl) dX12_pairsOf_49 ⟨Nat.le_refl _, Nat.le_refl _⟩) hw rfl (Nat.le_refl _) (Nat.le_refl _) (fun H locs hw => ?_)
          refine W.eq (g2 := F0 m 52 ls [.int z4.1]) rfl ?_
          have hw : w_W G M z4.2 s H locs := hw
          refine lv_istore (lv' := [(4, .int z4.1), (3, .int (a0 &&& ((1 <<< (x2 &&& 31)) ^^^ (-1)))), (0, .ref (g_r G)), (1, .int a0), (2, .int x2)]) hx hb dX12_pairsOf_52 hl (by decide) rfl (fun ls hl => ?_)
          refine lv_iload_n hx hb dX12_pairsOf_54 rfl (lv_at hl 4 rfl) ?_
          refine lv_iconst (v := 1) hx hb dX12_pairsOf_55 (by decide) ?_
          refine lv_iadd hx hb dX12_pairsOf_56 ?_
          refine lv_istore (lv' := [(5, .int (x2 + 1)), (4, .int z4.1), (3, .int (a0 &&& ((1 <<< (x2 &&& 31)) ^^^ (-1)))), (0, .ref (g_r G)), (1, .int a0), (2, .int x2)]) hx hb dX12_pairsOf_57 hl (by decide) rfl (fun ls hl => ?_)
          exact w59  N x2 (a0 &&& ((1 <<< (x2 &&& 31)) ^^^ (-1))) z4.1 (x2 + 1) z4.2 _ _ _ hw (lv_sub hl [3, 4, 5, 2, 1, 0] rfl)
        · refine lv_iinc (v := x2 + 1) (lv' := [(2, .int (x2 + 1)), (0, .ref (g_r G)), (1, .int a0)]) hx hb dX12_pairsOf_33 hl (k := 2) rfl rfl (by decide) rfl (fun ls hl => ?_)
          refine lv_goto (tgt := 25) hx hb dX12_pairsOf_36 (by decide) ?_
          exact ih (x2 + 1) r _ _ _ hw (lv_sub hl [1, 2, 0] rfl)
    rw [f_R_pairsOf]
    refine lv_iload_n hx hb dX12_pairsOf_0 rfl (lv_at hl 1 rfl) ?_
    refine cx_if_ne (tgt := 6) E dX12_pairsOf_1 (by decide) (fun _ => ?_) (fun _ => ?_)
    · refine lv_aload_n hx hb dX12_pairsOf_6 rfl (lv_at hl 0 rfl) ?_
      refine rx_getA E hw on kF_R_50_11 (by decide) dX12_pairsOf_7 ?_
      refine lv_iload_n hx hb dX12_pairsOf_10 rfl (lv_at hl 1 rfl) ?_
      refine rx_iald E hw on (by decide) dX12_pairsOf_11 (fun v1 => ?_)
      refine lv_iconst (v := (-1)) hx hb dX12_pairsOf_12 (by decide) ?_
      refine cx_icmp_eq (tgt := 23) E dX12_pairsOf_13 (by decide) (fun _ => ?_) (fun _ => ?_)
      · refine lv_iconst (v := 0) hx hb dX12_pairsOf_23 (by decide) ?_
        refine lv_istore_n (lv' := [(2, .int 0), (0, .ref (g_r G)), (1, .int a0)]) hx hb dX12_pairsOf_24 rfl hl (by decide) rfl (fun ls hl => ?_)
        exact w25  N 0 r _ _ _ hw (lv_sub hl [1, 2, 0] rfl)
      · refine lv_aload_n hx hb dX12_pairsOf_16 rfl (lv_at hl 0 rfl) ?_
        refine rx_getA E hw on kF_R_50_11 (by decide) dX12_pairsOf_17 ?_
        refine lv_iload_n hx hb dX12_pairsOf_20 rfl (lv_at hl 1 rfl) ?_
        refine rx_iald E hw on (by decide) dX12_pairsOf_21 (fun v2 => ?_)
        exact p_iret E hw hr (Nat.le_of_ble_eq_true rfl) (Nat.le_of_ble_eq_true rfl) rfl dX12_pairsOf_22
    · refine lv_iconst (v := 0) hx hb dX12_pairsOf_4 (by decide) ?_
      exact p_iret E hw hr (Nat.le_of_ble_eq_true rfl) (Nat.le_of_ble_eq_true rfl) rfl dX12_pairsOf_5
set_option maxHeartbeats 4000000 in
set_option maxRecDepth 100000 in
theorem t_R_pairs (l : Launch) (hfl : l.stackTraces = false) (G : wG) (on : g_on G = true) (N : Nat) (a0 : Int32) (M : Mem) (r : Rho) : Ctr l yX12_pairs (wWs yX12_pairs cX12_pairs 6 (some .int)) rm_R_pairs rm_R_pairs.cells rm_R_pairs.slots G [.ref (g_r G), .int a0] M r ((f_R_pairs N a0 r).map (fun z => (.inl (some (.int z.1)), M, z.2))) := by
  refine Ctr.ofF (own := "CheekTownModel") (by decide +kernel) hfl rfl (Nat.le_of_ble_eq_true rfl) (fun p e s m args below meth c E hno hr hnm hw ls hl => ?_)
  obtain ⟨hx, hb, hts, hown, hml, hTT, -⟩ := id E
  have hl : lv_has ls 6 [(0, .ref (g_r G)), (1, .int a0)] := hl
  obtain ⟨H, hH⟩ : ∃ H, H = s.heap := ⟨_, rfl⟩
  obtain ⟨locs, hlo⟩ : ∃ L : List Loc, L = [] := ⟨_, rfl⟩
  rw [← hH, ← hlo]
  rw [← hlo] at hw
  replace hw : w_W G M r s H locs := by rw [hH]; exact hw
  have w53 : ∀ (n : Nat) (x2 : Int32) (x3 : Int32) (x4 : Int32) (r : Rho) (H : Heap) (locs : List Loc) (ls : Array Slot), w_W G M r s H locs → lv_has ls 6 [(0, .ref (g_r G)), (2, .int x2), (3, .int x3), (4, .int x4)] → W p l e rm_R_pairs s m args below meth c H locs 0 0 (PQ G below args s rm_R_pairs.cells rm_R_pairs.slots (fun z => (.inl (some (.int z.1)), M, z.2)) (f_R_pairs_53 N a0 n x2 x3 x4 r)) (F0 m 53 ls []) := by
    intro n
    induction n with
    | zero => intros; exact W_none
    | succ n ih =>
      intro x2 x3 x4 r H locs ls hw hl
      rw [f_R_pairs_53]
      refine lv_iload hx hb dX12_pairs_53 (lv_at hl 3 rfl) ?_
      refine lv_aload_n hx hb dX12_pairs_55 rfl (lv_at hl 0 rfl) ?_
      refine rx_getA E hw on kF_R_7_11 (by decide) dX12_pairs_56 ?_
      refine lv_bipush (v := 6) hx hb dX12_pairs_59 (by decide) ?_
      refine rx_iald E hw on (by decide) dX12_pairs_61 (fun v4 => ?_)
      refine cx_icmp_ge (tgt := 131) E dX12_pairs_62 (by decide) (fun _ => ?_) (fun _ => ?_)
      · refine lv_iload_n hx hb dX12_pairs_131 rfl (lv_at hl 1 rfl) ?_
        refine lv_iload_n hx hb dX12_pairs_132 rfl (lv_at hl 2 rfl) ?_
        refine lv_iand hx hb dX12_pairs_133 ?_
        exact p_iret E hw hr (Nat.le_of_ble_eq_true rfl) (Nat.le_of_ble_eq_true rfl) rfl dX12_pairs_134
      · refine lv_iconst (v := 1) hx hb dX12_pairs_65 (by decide) ?_
        refine lv_aload_n hx hb dX12_pairs_66 rfl (lv_at hl 0 rfl) ?_
        refine lv_iload hx hb dX12_pairs_67 (lv_at hl 3 rfl) ?_
        refine W_bind fun z5 hz => ?_
        refine w_after (cells1 := 0) (slots1 := 0) (w_runV E kV_R_63 kc_X12_who (t_R_who l hfl G on x4 M r ((fun z => (.inl (some (.int z)), M, r)) z5) (by rw [hz]; rfl)) ⟨Nat.le_of_ble_eq_true rfl, Nat.le_of_ble_eq_true rfl⟩ hw (w_recvR E hw on) rfl hl.1 rfl (Nat.le_of_ble_eq_true rfl) dX12_pairs_69 ⟨Nat.le_of_ble_eq_true rfl, Nat.le_of_ble_eq_true rfl⟩) hw rfl (Nat.le_of_ble_eq_true rfl) (Nat.le_of_ble_eq_true rfl) (fun H locs hw => ?_)
        refine W.eq (g2 := F0 m 72 ls [.int z5, .int 1]) rfl ?_
        have hw : w_W G M r s H locs := hw
        refine lv_ishl hx hb dX12_pairs_72 ?_
        refine lv_iconst (v := 1) hx hb dX12_pairs_73 (by decide) ?_
        refine lv_aload_n hx hb dX12_pairs_74 rfl (lv_at hl 0 rfl) ?_
        refine lv_iload hx hb dX12_pairs_75 (lv_at hl 3 rfl) ?_
        refine W_bind fun z6 hz => ?_
        refine w_after (cells1 := 0) (slots1 := 0) (w_runV E kV_R_67 kc_X12_whom (t_R_whom l hfl G on x4 M r ((fun z => (.inl (some (.int z)), M, r)) z6) (by rw [hz]; rfl)) ⟨Nat.le_of_ble_eq_true rfl, Nat.le_of_ble_eq_true rfl⟩ hw (w_recvR E hw on) rfl hl.1 rfl (Nat.le_of_ble_eq_true rfl) dX12_pairs_77 ⟨Nat.le_of_ble_eq_true rfl, Nat.le_of_ble_eq_true rfl⟩) hw rfl (Nat.le_of_ble_eq_true rfl) (Nat.le_of_ble_eq_true rfl) (fun H locs hw => ?_)
        refine W.eq (g2 := F0 m 80 ls [.int z6, .int 1, .int (1 <<< (z5 &&& 31))]) rfl ?_
        have hw : w_W G M r s H locs := hw
        refine lv_ishl hx hb dX12_pairs_80 ?_
        refine lv_ior hx hb dX12_pairs_81 ?_
        refine lv_istore (lv' := [(5, .int ((1 <<< (z5 &&& 31)) ||| (1 <<< (z6 &&& 31)))), (0, .ref (g_r G)), (2, .int x2), (3, .int x3), (4, .int x4)]) hx hb dX12_pairs_82 hl (by decide) rfl (fun ls hl => ?_)
        refine lv_iload_n hx hb dX12_pairs_84 rfl (lv_at hl 3 rfl) ?_
        refine lv_iload hx hb dX12_pairs_85 (lv_at hl 0 rfl) ?_
        refine lv_ior hx hb dX12_pairs_87 ?_
        refine lv_istore_n (lv' := [(3, .int (x3 ||| ((1 <<< (z5 &&& 31)) ||| (1 <<< (z6 &&& 31))))), (5, .int ((1 <<< (z5 &&& 31)) ||| (1 <<< (z6 &&& 31)))), (0, .ref (g_r G)), (2, .int x2), (4, .int x4)]) hx hb dX12_pairs_88 rfl hl (by decide) rfl (fun ls hl => ?_)
        refine lv_iload_n hx hb dX12_pairs_89 rfl (lv_at hl 3 rfl) ?_
        refine lv_iload hx hb dX12_pairs_90 (lv_at hl 1 rfl) ?_
        refine lv_iand hx hb dX12_pairs_92 ?_
        refine lv_iload hx hb dX12_pairs_93 (lv_at hl 1 rfl) ?_
        refine cx_icmp_ne (tgt := 125) E dX12_pairs_95 (by decide) (fun _ => ?_) (fun _ => ?_)
        · refine lv_iinc (v := x4 + 1) (lv' := [(4, .int (x4 + 1)), (3, .int (x3 ||| ((1 <<< (z5 &&& 31)) ||| (1 <<< (z6 &&& 31))))), (5, .int ((1 <<< (z5 &&& 31)) ||| (1 <<< (z6 &&& 31)))), (0, .ref (g_r G)), (2, .int x2)]) hx hb dX12_pairs_125 hl (k := 4) rfl rfl (by decide) rfl (fun ls hl => ?_)
          refine lv_goto (tgt := 53) hx hb dX12_pairs_128 (by decide) ?_
          exact ih x2 (x3 ||| ((1 <<< (z5 &&& 31)) ||| (1 <<< (z6 &&& 31)))) (x4 + 1) r _ _ _ hw (lv_sub hl [3, 4, 1, 0] rfl)
        · refine lv_iconst (v := 1) hx hb dX12_pairs_98 (by decide) ?_
          refine lv_aload_n hx hb dX12_pairs_99 rfl (lv_at hl 2 rfl) ?_
          refine lv_iload_n hx hb dX12_pairs_100 rfl (lv_at hl 3 rfl) ?_
          refine lv_iload hx hb dX12_pairs_101 (lv_at hl 1 rfl) ?_
          refine lv_iconst (v := (-1)) hx hb dX12_pairs_103 (by decide) ?_
          refine lv_ixor hx hb dX12_pairs_104 ?_
          refine lv_iand hx hb dX12_pairs_105 ?_
          refine W_bind fun z7 hz => ?_
          refine w_after (cells1 := 0) (slots1 := 0) (w_runV E kV_R_344 kc_X12_pairsOf (t_R_pairsOf l hfl G on N 12 (x2 &&& (((1 <<< (z5 &&& 31)) ||| (1 <<< (z6 &&& 31))) ^^^ (-1))) M r ((fun z => (.inl (some (.int z.1)), M, z.2)) z7) (by rw [hz]; rfl)) ⟨Nat.le_of_ble_eq_true rfl, Nat.le_of_ble_eq_true rfl⟩ hw (w_recvR E hw on) rfl hl.1 rfl (Nat.le_of_ble_eq_true rfl) dX12_pairs_106 ⟨Nat.le_of_ble_eq_true rfl, Nat.le_of_ble_eq_true rfl⟩) hw rfl (Nat.le_of_ble_eq_true rfl) (Nat.le_of_ble_eq_true rfl) (fun H locs hw => ?_)
          refine W.eq (g2 := F0 m 109 ls [.int z7.1, .int 1]) rfl ?_
          have hw : w_W G M z7.2 s H locs := hw
          refine lv_iadd hx hb dX12_pairs_109 ?_
          refine lv_aload_n hx hb dX12_pairs_110 rfl (lv_at hl 2 rfl) ?_
          refine lv_iload_n hx hb dX12_pairs_111 rfl (lv_at hl 3 rfl) ?_
          refine W_bind fun z8 hz => ?_
          refine w_after (cells1 := 0) (slots1 := 0) (w_runV E kV_R_344 kc_X12_pairsOf (t_R_pairsOf l hfl G on N 12 x2 M z7.2 ((fun z => (.inl (some (.int z.1)), M, z.2)) z8) (by rw [hz]; rfl)) ⟨Nat.le_of_ble_eq_true rfl, Nat.le_of_ble_eq_true rfl⟩ hw (w_recvR E hw on) rfl hl.1 rfl (Nat.le_of_ble_eq_true rfl) dX12_pairs_112 ⟨Nat.le_of_ble_eq_true rfl, Nat.le_of_ble_eq_true rfl⟩) hw rfl (Nat.le_of_ble_eq_true rfl) (Nat.le_of_ble_eq_true rfl) (fun H locs hw => ?_)
          refine W.eq (g2 := F0 m 115 ls [.int z8.1, .int (1 + z7.1)]) rfl ?_
          have hw : w_W G M z8.2 s H locs := hw
          refine cx_icmp_ne (tgt := 125) E dX12_pairs_115 (by decide) (fun _ => ?_) (fun _ => ?_)
          · refine lv_iinc (v := x4 + 1) (lv' := [(4, .int (x4 + 1)), (3, .int (x3 ||| ((1 <<< (z5 &&& 31)) ||| (1 <<< (z6 &&& 31))))), (5, .int ((1 <<< (z5 &&& 31)) ||| (1 <<< (z6 &&& 31)))), (0, .ref (g_r G)), (2, .int x2)]) hx hb dX12_pairs_125 hl (k := 4) rfl rfl (by decide) rfl (fun ls hl => ?_)
            refine lv_goto (tgt := 53) hx hb dX12_pairs_128 (by decide) ?_
            exact ih x2 (x3 ||| ((1 <<< (z5 &&& 31)) ||| (1 <<< (z6 &&& 31)))) (x4 + 1) z8.2 _ _ _ hw (lv_sub hl [3, 4, 1, 0] rfl)
          · refine lv_iload_n hx hb dX12_pairs_118 rfl (lv_at hl 3 rfl) ?_
            refine lv_iload hx hb dX12_pairs_119 (lv_at hl 1 rfl) ?_
            refine lv_iconst (v := (-1)) hx hb dX12_pairs_121 (by decide) ?_
            refine lv_ixor hx hb dX12_pairs_122 ?_
            refine lv_iand hx hb dX12_pairs_123 ?_
            refine lv_istore_n (lv' := [(2, .int (x2 &&& (((1 <<< (z5 &&& 31)) ||| (1 <<< (z6 &&& 31))) ^^^ (-1)))), (3, .int (x3 ||| ((1 <<< (z5 &&& 31)) ||| (1 <<< (z6 &&& 31))))), (5, .int ((1 <<< (z5 &&& 31)) ||| (1 <<< (z6 &&& 31)))), (0, .ref (g_r G)), (4, .int x4)]) hx hb dX12_pairs_124 rfl hl (by decide) rfl (fun ls hl => ?_)
            refine lv_iinc (v := x4 + 1) (lv' := [(4, .int (x4 + 1)), (2, .int (x2 &&& (((1 <<< (z5 &&& 31)) ||| (1 <<< (z6 &&& 31))) ^^^ (-1)))), (3, .int (x3 ||| ((1 <<< (z5 &&& 31)) ||| (1 <<< (z6 &&& 31))))), (5, .int ((1 <<< (z5 &&& 31)) ||| (1 <<< (z6 &&& 31)))), (0, .ref (g_r G))]) hx hb dX12_pairs_125 hl (k := 4) rfl rfl (by decide) rfl (fun ls hl => ?_)
            refine lv_goto (tgt := 53) hx hb dX12_pairs_128 (by decide) ?_
            exact ih (x2 &&& (((1 <<< (z5 &&& 31)) ||| (1 <<< (z6 &&& 31))) ^^^ (-1))) (x3 ||| ((1 <<< (z5 &&& 31)) ||| (1 <<< (z6 &&& 31)))) (x4 + 1) z8.2 _ _ _ hw (lv_sub hl [4, 1, 2, 0] rfl)
  have w7 : ∀ (n : Nat) (x2 : Int32) (r : Rho) (H : Heap) (locs : List Loc) (ls : Array Slot), w_W G M r s H locs → lv_has ls 6 [(0, .ref (g_r G)), (1, .int a0), (2, .int x2)] → W p l e rm_R_pairs s m args below meth c H locs 0 0 (PQ G below args s rm_R_pairs.cells rm_R_pairs.slots (fun z => (.inl (some (.int z.1)), M, z.2)) (f_R_pairs_7 N a0 n x2 r)) (F0 m 7 ls []) := by
    intro n
    induction n with
    | zero => intros; exact W_none
    | succ n ih =>
      intro x2 r H locs ls hw hl
      rw [f_R_pairs_7]
      refine lv_iload_n hx hb dX12_pairs_7 rfl (lv_at hl 2 rfl) ?_
      refine lv_sipush (v := 1024) hx hb dX12_pairs_8 (by decide) ?_
      refine cx_icmp_ge (tgt := 27) E dX12_pairs_11 (by decide) (fun _ => ?_) (fun _ => ?_)
      · refine lv_iconst (v := 1) hx hb dX12_pairs_27 (by decide) ?_
        refine lv_aload_n hx hb dX12_pairs_28 rfl (lv_at hl 0 rfl) ?_
        refine rx_getA E hw on kF_R_7_11 (by decide) dX12_pairs_29 ?_
        refine lv_iconst (v := 5) hx hb dX12_pairs_32 (by decide) ?_
        refine rx_iald E hw on (by decide) dX12_pairs_33 (fun v1 => ?_)
        refine lv_ishl hx hb dX12_pairs_34 ?_
        refine lv_iconst (v := 1) hx hb dX12_pairs_35 (by decide) ?_
        refine lv_isub hx hb dX12_pairs_36 ?_
        refine lv_istore_n (lv' := [(2, .int ((1 <<< (v1 &&& 31)) - 1)), (0, .ref (g_r G)), (1, .int a0)]) hx hb dX12_pairs_37 rfl hl (by decide) rfl (fun ls hl => ?_)
        refine lv_iload_n hx hb dX12_pairs_38 rfl (lv_at hl 2 rfl) ?_
        refine cx_if_ne (tgt := 48) E dX12_pairs_39 (by decide) (fun _ => ?_) (fun _ => ?_)
        · refine lv_iconst (v := 0) hx hb dX12_pairs_48 (by decide) ?_
          refine lv_istore_n (lv' := [(3, .int 0), (2, .int ((1 <<< (v1 &&& 31)) - 1)), (0, .ref (g_r G)), (1, .int a0)]) hx hb dX12_pairs_49 rfl hl (by decide) rfl (fun ls hl => ?_)
          refine lv_iconst (v := 0) hx hb dX12_pairs_50 (by decide) ?_
          refine lv_istore (lv' := [(4, .int 0), (3, .int 0), (2, .int ((1 <<< (v1 &&& 31)) - 1)), (0, .ref (g_r G)), (1, .int a0)]) hx hb dX12_pairs_51 hl (by decide) rfl (fun ls hl => ?_)
          exact w53  N ((1 <<< (v1 &&& 31)) - 1) 0 0 r _ _ _ hw (lv_sub hl [3, 2, 1, 0] rfl)
        · refine lv_aload_n hx hb dX12_pairs_42 rfl (lv_at hl 1 rfl) ?_
          refine lv_iload_n hx hb dX12_pairs_43 rfl (lv_at hl 0 rfl) ?_
          refine W_bind fun z2 hz => ?_
          refine w_after (cells1 := 0) (slots1 := 0) (w_runV E kV_R_344 kc_X12_pairsOf (t_R_pairsOf l hfl G on N 12 ((1 <<< (v1 &&& 31)) - 1) M r ((fun z => (.inl (some (.int z.1)), M, z.2)) z2) (by rw [hz]; rfl)) ⟨Nat.le_of_ble_eq_true rfl, Nat.le_of_ble_eq_true rfl⟩ hw (w_recvR E hw on) rfl hl.1 rfl (Nat.le_of_ble_eq_true rfl) dX12_pairs_44 ⟨Nat.le_of_ble_eq_true rfl, Nat.le_of_ble_eq_true rfl⟩) hw rfl (Nat.le_of_ble_eq_true rfl) (Nat.le_of_ble_eq_true rfl) (fun H locs hw => ?_)
          refine W.eq (g2 := F0 m 47 ls [.int z2.1]) rfl ?_
          have hw : w_W G M z2.2 s H locs := hw
          exact p_iret E hw hr (Nat.le_of_ble_eq_true rfl) (Nat.le_of_ble_eq_true rfl) rfl dX12_pairs_47
      · refine lv_aload_n hx hb dX12_pairs_14 rfl (lv_at hl 0 rfl) ?_
        refine rx_getA E hw on kF_R_50_11 (by decide) dX12_pairs_15 ?_
        refine lv_iload_n hx hb dX12_pairs_18 rfl (lv_at hl 2 rfl) ?_
        refine lv_iconst (v := (-1)) hx hb dX12_pairs_19 (by decide) ?_
        refine rx_iast E hw on (by decide) dX12_pairs_20 (fun r3 H locs hw => ?_)
        refine lv_iinc (v := x2 + 1) (lv' := [(2, .int (x2 + 1)), (0, .ref (g_r G)), (1, .int a0)]) hx hb dX12_pairs_21 hl (k := 2) rfl rfl (by decide) rfl (fun ls hl => ?_)
        refine lv_goto (tgt := 7) hx hb dX12_pairs_24 (by decide) ?_
        exact ih (x2 + 1) r3 _ _ _ hw (lv_sub hl [1, 2, 0] rfl)
  unfold f_R_pairs
  refine lv_aload_n hx hb dX12_pairs_0 rfl (lv_at hl 0 rfl) ?_
  refine lv_iconst (v := 0) hx hb dX12_pairs_1 (by decide) ?_
  refine rx_putI E hw on kF_R_56_11 (by decide) kT_11_0 dX12_pairs_2 (fun H locs hw => ?_)
  refine lv_iconst (v := 0) hx hb dX12_pairs_5 (by decide) ?_
  refine lv_istore_n (lv' := [(2, .int 0), (0, .ref (g_r G)), (1, .int a0)]) hx hb dX12_pairs_6 rfl hl (by decide) rfl (fun ls hl => ?_)
  exact w7  N 0 (r_set r 0 0) _ _ _ hw (lv_sub hl [1, 2, 0] rfl)
set_option maxHeartbeats 4000000 in
set_option maxRecDepth 100000 in
theorem t_R_beginner (l : Launch) (hfl : l.stackTraces = false) (G : wG) (on : g_on G = true) (a0 : Int32) (a1 : Int32) (a2 : Int32) (M : Mem) (r : Rho) : Ctr l yX12_beginner (wWs yX12_beginner cX12_beginner 6 (some .int)) rm_R_beginner rm_R_beginner.cells rm_R_beginner.slots G [.ref (g_r G), .int a0, .int a1, .int a2] M r ((f_R_beginner a0 a1 a2 r).map (fun z => (.inl (some (.int z)), M, r))) := by
  refine Ctr.ofF (own := "CheekTownModel") (by decide +kernel) hfl rfl (Nat.le_of_ble_eq_true rfl) (fun p e s m args below meth c E hno hr hnm hw ls hl => ?_)
  obtain ⟨hx, hb, hts, hown, hml, hTT, -⟩ := id E
  have hl : lv_has ls 6 [(0, .ref (g_r G)), (1, .int a0), (2, .int a1), (3, .int a2)] := hl
  obtain ⟨H, hH⟩ : ∃ H, H = s.heap := ⟨_, rfl⟩
  obtain ⟨locs, hlo⟩ : ∃ L : List Loc, L = [] := ⟨_, rfl⟩
  rw [← hH, ← hlo]
  rw [← hlo] at hw
  replace hw : w_W G M r s H locs := by rw [hH]; exact hw
  unfold f_R_beginner
  refine lv_iload_n hx hb dX12_beginner_0 rfl (lv_at hl 1 rfl) ?_
  refine lv_iload_n hx hb dX12_beginner_1 rfl (lv_at hl 2 rfl) ?_
  refine W_bind fun z1 hz => ?_
  refine w_after (cells1 := 0) (slots1 := 0) (w_runS E kS_R_284 kc_X12_lesser (t_R_lesser l hfl G a0 a1 M r ((fun z => (.inl (some (.int z)), M, r)) z1) (by rw [hz]; rfl)) ⟨Nat.le_of_ble_eq_true rfl, Nat.le_of_ble_eq_true rfl⟩ hw rfl hl.1 rfl (Nat.le_of_ble_eq_true rfl) dX12_beginner_2 ⟨Nat.le_of_ble_eq_true rfl, Nat.le_of_ble_eq_true rfl⟩) hw rfl (Nat.le_of_ble_eq_true rfl) (Nat.le_of_ble_eq_true rfl) (fun H locs hw => ?_)
  refine W.eq (g2 := F0 m 5 ls [.int z1]) rfl ?_
  have hw : w_W G M r s H locs := hw
  refine lv_istore (lv' := [(4, .int z1), (0, .ref (g_r G)), (1, .int a0), (2, .int a1), (3, .int a2)]) hx hb dX12_beginner_5 hl (by decide) rfl (fun ls hl => ?_)
  refine lv_iload_n hx hb dX12_beginner_7 rfl (lv_at hl 2 rfl) ?_
  refine lv_iload_n hx hb dX12_beginner_8 rfl (lv_at hl 3 rfl) ?_
  refine W_bind fun z2 hz => ?_
  refine w_after (cells1 := 0) (slots1 := 0) (w_runS E kS_R_287 kc_X12_greater (t_R_greater l hfl G a0 a1 M r ((fun z => (.inl (some (.int z)), M, r)) z2) (by rw [hz]; rfl)) ⟨Nat.le_of_ble_eq_true rfl, Nat.le_of_ble_eq_true rfl⟩ hw rfl hl.1 rfl (Nat.le_of_ble_eq_true rfl) dX12_beginner_9 ⟨Nat.le_of_ble_eq_true rfl, Nat.le_of_ble_eq_true rfl⟩) hw rfl (Nat.le_of_ble_eq_true rfl) (Nat.le_of_ble_eq_true rfl) (fun H locs hw => ?_)
  refine W.eq (g2 := F0 m 12 ls [.int z2]) rfl ?_
  have hw : w_W G M r s H locs := hw
  refine lv_istore (lv' := [(5, .int z2), (4, .int z1), (0, .ref (g_r G)), (1, .int a0), (2, .int a1), (3, .int a2)]) hx hb dX12_beginner_12 hl (by decide) rfl (fun ls hl => ?_)
  refine lv_iload_n hx hb dX12_beginner_14 rfl (lv_at hl 5 rfl) ?_
  refine cx_if_ne (tgt := 43) E dX12_beginner_15 (by decide) (fun _ => ?_) (fun _ => ?_)
  · refine lv_iload_n hx hb dX12_beginner_43 rfl (lv_at hl 5 rfl) ?_
    refine lv_iconst (v := 1) hx hb dX12_beginner_44 (by decide) ?_
    refine cx_icmp_ne (tgt := 70) E dX12_beginner_45 (by decide) (fun _ => ?_) (fun _ => ?_)
    · refine lv_iload hx hb dX12_beginner_70 (lv_at hl 1 rfl) ?_
      exact p_iret E hw hr (Nat.le_of_ble_eq_true rfl) (Nat.le_of_ble_eq_true rfl) rfl dX12_beginner_72
    · refine lv_aload_n hx hb dX12_beginner_48 rfl (lv_at hl 2 rfl) ?_
      refine lv_iload hx hb dX12_beginner_49 (lv_at hl 0 rfl) ?_
      refine lv_iconst (v := 2) hx hb dX12_beginner_51 (by decide) ?_
      refine W_bind fun z3 hz => ?_
      refine w_after (cells1 := 0) (slots1 := 0) (w_runV E kV_R_257 kc_X12_of (t_R_of l hfl G on z2 2 M r ((fun z => (.inl (some (.int z)), M, r)) z3) (by rw [hz]; rfl)) ⟨Nat.le_of_ble_eq_true rfl, Nat.le_of_ble_eq_true rfl⟩ hw (w_recvR E hw on) rfl hl.1 rfl (Nat.le_of_ble_eq_true rfl) dX12_beginner_52 ⟨Nat.le_of_ble_eq_true rfl, Nat.le_of_ble_eq_true rfl⟩) hw rfl (Nat.le_of_ble_eq_true rfl) (Nat.le_of_ble_eq_true rfl) (fun H locs hw => ?_)
      refine W.eq (g2 := F0 m 55 ls [.int z3]) rfl ?_
      have hw : w_W G M r s H locs := hw
      refine lv_aload_n hx hb dX12_beginner_55 rfl (lv_at hl 2 rfl) ?_
      refine lv_iload hx hb dX12_beginner_56 (lv_at hl 1 rfl) ?_
      refine lv_iconst (v := 2) hx hb dX12_beginner_58 (by decide) ?_
      refine W_bind fun z4 hz => ?_
      refine w_after (cells1 := 0) (slots1 := 0) (w_runV E kV_R_257 kc_X12_of (t_R_of l hfl G on z1 2 M r ((fun z => (.inl (some (.int z)), M, r)) z4) (by rw [hz]; rfl)) ⟨Nat.le_of_ble_eq_true rfl, Nat.le_of_ble_eq_true rfl⟩ hw (w_recvR E hw on) rfl hl.1 rfl (Nat.le_of_ble_eq_true rfl) dX12_beginner_59 ⟨Nat.le_of_ble_eq_true rfl, Nat.le_of_ble_eq_true rfl⟩) hw rfl (Nat.le_of_ble_eq_true rfl) (Nat.le_of_ble_eq_true rfl) (fun H locs hw => ?_)
      refine W.eq (g2 := F0 m 62 ls [.int z4, .int z3]) rfl ?_
      have hw : w_W G M r s H locs := hw
      refine cx_icmp_ge (tgt := 70) E dX12_beginner_62 (by decide) (fun _ => ?_) (fun _ => ?_)
      · refine lv_iload hx hb dX12_beginner_70 (lv_at hl 1 rfl) ?_
        exact p_iret E hw hr (Nat.le_of_ble_eq_true rfl) (Nat.le_of_ble_eq_true rfl) rfl dX12_beginner_72
      · refine lv_iload hx hb dX12_beginner_65 (lv_at hl 0 rfl) ?_
        refine lv_goto (tgt := 72) hx hb dX12_beginner_67 (by decide) ?_
        exact p_iret E hw hr (Nat.le_of_ble_eq_true rfl) (Nat.le_of_ble_eq_true rfl) rfl dX12_beginner_72
  · refine lv_aload_n hx hb dX12_beginner_18 rfl (lv_at hl 2 rfl) ?_
    refine lv_iload hx hb dX12_beginner_19 (lv_at hl 0 rfl) ?_
    refine lv_iconst (v := 2) hx hb dX12_beginner_21 (by decide) ?_
    refine W_bind fun z5 hz => ?_
    refine w_after (cells1 := 0) (slots1 := 0) (w_runV E kV_R_257 kc_X12_of (t_R_of l hfl G on z2 2 M r ((fun z => (.inl (some (.int z)), M, r)) z5) (by rw [hz]; rfl)) ⟨Nat.le_of_ble_eq_true rfl, Nat.le_of_ble_eq_true rfl⟩ hw (w_recvR E hw on) rfl hl.1 rfl (Nat.le_of_ble_eq_true rfl) dX12_beginner_22 ⟨Nat.le_of_ble_eq_true rfl, Nat.le_of_ble_eq_true rfl⟩) hw rfl (Nat.le_of_ble_eq_true rfl) (Nat.le_of_ble_eq_true rfl) (fun H locs hw => ?_)
    refine W.eq (g2 := F0 m 25 ls [.int z5]) rfl ?_
    have hw : w_W G M r s H locs := hw
    refine lv_aload_n hx hb dX12_beginner_25 rfl (lv_at hl 2 rfl) ?_
    refine lv_iload hx hb dX12_beginner_26 (lv_at hl 1 rfl) ?_
    refine lv_iconst (v := 2) hx hb dX12_beginner_28 (by decide) ?_
    refine W_bind fun z6 hz => ?_
    refine w_after (cells1 := 0) (slots1 := 0) (w_runV E kV_R_257 kc_X12_of (t_R_of l hfl G on z1 2 M r ((fun z => (.inl (some (.int z)), M, r)) z6) (by rw [hz]; rfl)) ⟨Nat.le_of_ble_eq_true rfl, Nat.le_of_ble_eq_true rfl⟩ hw (w_recvR E hw on) rfl hl.1 rfl (Nat.le_of_ble_eq_true rfl) dX12_beginner_29 ⟨Nat.le_of_ble_eq_true rfl, Nat.le_of_ble_eq_true rfl⟩) hw rfl (Nat.le_of_ble_eq_true rfl) (Nat.le_of_ble_eq_true rfl) (fun H locs hw => ?_)
    refine W.eq (g2 := F0 m 32 ls [.int z6, .int z5]) rfl ?_
    have hw : w_W G M r s H locs := hw
    refine cx_icmp_le (tgt := 40) E dX12_beginner_32 (by decide) (fun _ => ?_) (fun _ => ?_)
    · refine lv_iload hx hb dX12_beginner_40 (lv_at hl 1 rfl) ?_
      exact p_iret E hw hr (Nat.le_of_ble_eq_true rfl) (Nat.le_of_ble_eq_true rfl) rfl dX12_beginner_42
    · refine lv_iload hx hb dX12_beginner_35 (lv_at hl 0 rfl) ?_
      refine lv_goto (tgt := 42) hx hb dX12_beginner_37 (by decide) ?_
      exact p_iret E hw hr (Nat.le_of_ble_eq_true rfl) (Nat.le_of_ble_eq_true rfl) rfl dX12_beginner_42

