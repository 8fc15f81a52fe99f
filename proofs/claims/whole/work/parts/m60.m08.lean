set_option maxHeartbeats 4000000 in
set_option maxRecDepth 100000 in
theorem t_CT_expected (l : Launch) (hfl : l.stackTraces = false) (G : wG) (N : Nat) (this : Nat) (a0 : Int32) (a1 : Int32) (M : Mem) (r : Rho) : Ctr l yX11_expected (wWs yX11_expected cX11_expected 3 (some .int)) rm_CT_expected rm_CT_expected.cells rm_CT_expected.slots G [.ref this, .int a0, .int a1] M r ((f_CT_expected N this a0 a1 M).map (fun z => (z.1.elim (fun v => .inl (some (.int v))) .inr, z.2, r))) := by
  refine Ctr.ofF (own := "CheekTown") (by decide +kernel) hfl rfl (Nat.le_of_ble_eq_true rfl) (fun p e s m args below meth c E hno hr hnm hw ls hl => ?_)
  obtain ⟨hx, hb, hts, hown, hml, hTT, -⟩ := id E
  have hl : lv_has ls 3 [(0, .ref this), (1, .int a0), (2, .int a1)] := hl
  obtain ⟨H, hH⟩ : ∃ H, H = s.heap := ⟨_, rfl⟩
  obtain ⟨locs, hlo⟩ : ∃ L : List Loc, L = [] := ⟨_, rfl⟩
  rw [← hH, ← hlo]
  rw [← hlo] at hw
  replace hw : w_W G M r s H locs := by rw [hH]; exact hw
  unfold f_CT_expected
  refine lv_aload_n hx hb dX11_expected_0 rfl (lv_at hl 0 rfl) ?_
  refine lv_iload_n hx hb dX11_expected_1 rfl (lv_at hl 1 rfl) ?_
  refine W_bind fun _ hck => ?_
  refine W_bind fun z1 hz => ?_
  refine w_afterS (cells1 := 1) (slots1 := 6) (vv := (fun _ => none)) (w_runV E kV_CT_162 kc_X11_needLand (t_CT_needLand l hfl G this a0 M r ((fun z => (z.1.elim (fun _ => .inl none) .inr, z.2, r)) z1) (by rw [hz]; rfl)) ⟨Nat.le_of_ble_eq_true rfl, Nat.le_of_ble_eq_true rfl⟩ hw (w_recv E hw (by decide) ⟨_, _, rfl⟩ (ck_ok hck)) rfl hl.1 rfl (Nat.le_of_ble_eq_true rfl) dX11_expected_2 ⟨Nat.le_of_ble_eq_true rfl, Nat.le_of_ble_eq_true rfl⟩) hw rfl (Nat.le_of_ble_eq_true rfl) (Nat.le_of_ble_eq_true rfl) (fun v2 H locs _ hw => ?_) (fun E9 H locs q ce _ hw hce hcv hcl => w_out E hno hw hce hcv hcl (Nat.le_of_ble_eq_true rfl) (Nat.le_of_ble_eq_true rfl) rfl)
  refine W.eq (g2 := F0 m 5 ls []) rfl ?_
  have hw : w_W G z1.2 r s H locs := hw
  refine lv_iload_n hx hb dX11_expected_5 rfl (lv_at hl 2 rfl) ?_
  refine W_bind fun z3 hz => ?_
  refine w_afterS (cells1 := 2) (slots1 := 12) (vv := (fun _ => none)) (w_runS E kS_CT_149 kc_X11_needGreeting (t_CT_needGreeting l hfl G a1 z1.2 r ((fun z => (z.1.elim (fun _ => .inl none) .inr, z.2, r)) z3) (by rw [hz]; rfl)) ⟨Nat.le_of_ble_eq_true rfl, Nat.le_of_ble_eq_true rfl⟩ hw rfl hl.1 rfl (Nat.le_of_ble_eq_true rfl) dX11_expected_6 ⟨Nat.le_of_ble_eq_true rfl, Nat.le_of_ble_eq_true rfl⟩) hw rfl (Nat.le_of_ble_eq_true rfl) (Nat.le_of_ble_eq_true rfl) (fun v4 H locs _ hw => ?_) (fun E9 H locs q ce _ hw hce hcv hcl => w_out E hno hw hce hcv hcl (Nat.le_of_ble_eq_true rfl) (Nat.le_of_ble_eq_true rfl) rfl)
  refine W.eq (g2 := F0 m 9 ls []) rfl ?_
  have hw : w_W G z3.2 r s H locs := hw
  refine lv_aload_n hx hb dX11_expected_9 rfl (lv_at hl 0 rfl) ?_
  refine gx_getR E hw kF_CT_20_10 (by decide) dX11_expected_10 (fun v5 _ => ?_)
  refine gx_getR E hw kF_CT_116_7 (by decide) dX11_expected_13 (fun v6 _ => ?_)
  refine lv_iload_n hx hb dX11_expected_16 rfl (lv_at hl 1 rfl) ?_
  refine lv_iload_n hx hb dX11_expected_17 rfl (lv_at hl 2 rfl) ?_
  refine W_bind fun _ hck => ?_
  refine W_bind fun z7 hz => ?_
  refine w_after (cells1 := 2) (slots1 := 12) (w_runV E kV_CT_255 kc_X0_expectedOf (t_Lands_expectedOf l hfl G N v6 a0 a1 z3.2 r ((fun z => (.inl (some (.int z)), z3.2, r)) z7) (by rw [hz]; rfl)) ⟨Nat.le_of_ble_eq_true rfl, Nat.le_of_ble_eq_true rfl⟩ hw (w_recv E hw (by decide) ⟨_, _, rfl⟩ (ck_ok hck)) rfl hl.1 rfl (Nat.le_of_ble_eq_true rfl) dX11_expected_18 ⟨Nat.le_of_ble_eq_true rfl, Nat.le_of_ble_eq_true rfl⟩) hw rfl (Nat.le_of_ble_eq_true rfl) (Nat.le_of_ble_eq_true rfl) (fun H locs hw => ?_)
  refine W.eq (g2 := F0 m 21 ls [.int z7]) rfl ?_
  have hw : w_W G z3.2 r s H locs := hw
  exact p_iret E hw hr (Nat.le_of_ble_eq_true rfl) (Nat.le_of_ble_eq_true rfl) rfl dX11_expected_21
set_option maxHeartbeats 4000000 in
set_option maxRecDepth 100000 in
theorem t_CT_best (l : Launch) (hfl : l.stackTraces = false) (G : wG) (N : Nat) (this : Nat) (a0 : Int32) (M : Mem) (r : Rho) : Ctr l yX11_best (wWs yX11_best cX11_best 2 (some .int)) rm_CT_best rm_CT_best.cells rm_CT_best.slots G [.ref this, .int a0] M r ((f_CT_best N this a0 M).map (fun z => (z.1.elim (fun v => .inl (some (.int v))) .inr, z.2, r))) := by
  refine Ctr.ofF (own := "CheekTown") (by decide +kernel) hfl rfl (Nat.le_of_ble_eq_true rfl) (fun p e s m args below meth c E hno hr hnm hw ls hl => ?_)
  obtain ⟨hx, hb, hts, hown, hml, hTT, -⟩ := id E
  have hl : lv_has ls 2 [(0, .ref this), (1, .int a0)] := hl
  obtain ⟨H, hH⟩ : ∃ H, H = s.heap := ⟨_, rfl⟩
  obtain ⟨locs, hlo⟩ : ∃ L : List Loc, L = [] := ⟨_, rfl⟩
  rw [← hH, ← hlo]
  rw [← hlo] at hw
  replace hw : w_W G M r s H locs := by rw [hH]; exact hw
  unfold f_CT_best
  refine lv_aload_n hx hb dX11_best_0 rfl (lv_at hl 0 rfl) ?_
  refine lv_iload_n hx hb dX11_best_1 rfl (lv_at hl 1 rfl) ?_
  refine W_bind fun _ hck => ?_
  refine W_bind fun z1 hz => ?_
  refine w_afterS (cells1 := 1) (slots1 := 6) (vv := (fun _ => none)) (w_runV E kV_CT_162 kc_X11_needLand (t_CT_needLand l hfl G this a0 M r ((fun z => (z.1.elim (fun _ => .inl none) .inr, z.2, r)) z1) (by rw [hz]; rfl)) ⟨Nat.le_of_ble_eq_true rfl, Nat.le_of_ble_eq_true rfl⟩ hw (w_recv E hw (by decide) ⟨_, _, rfl⟩ (ck_ok hck)) rfl hl.1 rfl (Nat.le_of_ble_eq_true rfl) dX11_best_2 ⟨Nat.le_of_ble_eq_true rfl, Nat.le_of_ble_eq_true rfl⟩) hw rfl (Nat.le_of_ble_eq_true rfl) (Nat.le_of_ble_eq_true rfl) (fun v2 H locs _ hw => ?_) (fun E9 H locs q ce _ hw hce hcv hcl => w_out E hno hw hce hcv hcl (Nat.le_of_ble_eq_true rfl) (Nat.le_of_ble_eq_true rfl) rfl)
  refine W.eq (g2 := F0 m 5 ls []) rfl ?_
  have hw : w_W G z1.2 r s H locs := hw
  refine lv_aload_n hx hb dX11_best_5 rfl (lv_at hl 0 rfl) ?_
  refine gx_getR E hw kF_CT_20_10 (by decide) dX11_best_6 (fun v3 _ => ?_)
  refine gx_getR E hw kF_CT_116_7 (by decide) dX11_best_9 (fun v4 _ => ?_)
  refine lv_iload_n hx hb dX11_best_12 rfl (lv_at hl 1 rfl) ?_
  refine W_bind fun _ hck => ?_
  refine W_bind fun z5 hz => ?_
  refine w_after (cells1 := 1) (slots1 := 6) (w_runV E kV_CT_258 kc_X0_bestIn (t_Lands_bestIn l hfl G N v4 a0 z1.2 r ((fun z => (.inl (some (.int z)), z1.2, r)) z5) (by rw [hz]; rfl)) ⟨Nat.le_of_ble_eq_true rfl, Nat.le_of_ble_eq_true rfl⟩ hw (w_recv E hw (by decide) ⟨_, _, rfl⟩ (ck_ok hck)) rfl hl.1 rfl (Nat.le_of_ble_eq_true rfl) dX11_best_13 ⟨Nat.le_of_ble_eq_true rfl, Nat.le_of_ble_eq_true rfl⟩) hw rfl (Nat.le_of_ble_eq_true rfl) (Nat.le_of_ble_eq_true rfl) (fun H locs hw => ?_)
  refine W.eq (g2 := F0 m 16 ls [.int z5]) rfl ?_
  have hw : w_W G z1.2 r s H locs := hw
  exact p_iret E hw hr (Nat.le_of_ble_eq_true rfl) (Nat.le_of_ble_eq_true rfl) rfl dX11_best_16
set_option maxHeartbeats 4000000 in
set_option maxRecDepth 100000 in
theorem t_Lands_allWeightIn (l : Launch) (hfl : l.stackTraces = false) (G : wG) (N : Nat) (this : Nat) (a0 : Int32) (M : Mem) (r : Rho) : Ctr l yX0_allWeightIn (wWs yX0_allWeightIn cX0_allWeightIn 4 (some .int)) rm_Lands_allWeightIn rm_Lands_allWeightIn.cells rm_Lands_allWeightIn.slots G [.ref this, .int a0] M r ((f_Lands_allWeightIn N this a0 M).map (fun z => (.inl (some (.int z)), M, r))) := by
  refine Ctr.ofF (own := "CheekTown$Lands") (by decide +kernel) hfl rfl (Nat.le_of_ble_eq_true rfl) (fun p e s m args below meth c E hno hr hnm hw ls hl => ?_)
  obtain ⟨hx, hb, hts, hown, hml, hTT, -⟩ := id E
  have hl : lv_has ls 4 [(0, .ref this), (1, .int a0)] := hl
  obtain ⟨H, hH⟩ : ∃ H, H = s.heap := ⟨_, rfl⟩
  obtain ⟨locs, hlo⟩ : ∃ L : List Loc, L = [] := ⟨_, rfl⟩
  rw [← hH, ← hlo]
  rw [← hlo] at hw
  replace hw : w_W G M r s H locs := by rw [hH]; exact hw
  have w4 : ∀ (n : Nat) (x2 : Int32) (x3 : Int32) (H : Heap) (locs : List Loc) (ls : Array Slot), w_W G M r s H locs → lv_has ls 4 [(0, .ref this), (1, .int a0), (2, .int x2), (3, .int x3)] → W p l e rm_Lands_allWeightIn s m args below meth c H locs 0 0 (PQ G below args s rm_Lands_allWeightIn.cells rm_Lands_allWeightIn.slots (fun z => (.inl (some (.int z)), M, r)) (f_Lands_allWeightIn_4 N this a0 M n x2 x3)) (F0 m 4 ls []) := by
    intro n
    induction n with
    | zero => intros; exact W_none
    | succ n ih =>
      intro x2 x3 H locs ls hw hl
      rw [f_Lands_allWeightIn_4]
      refine lv_iload_n hx hb dX0_allWeightIn_4 rfl (lv_at hl 3 rfl) ?_
      refine lv_aload_n hx hb dX0_allWeightIn_5 rfl (lv_at hl 0 rfl) ?_
      refine gx_getI E hw kF_Lands_36_0 (by decide) dX0_allWeightIn_6 (fun v1 _ => ?_)
      refine cx_icmp_ge (tgt := 43) E dX0_allWeightIn_9 (by decide) (fun _ => ?_) (fun _ => ?_)
      · refine lv_iload_n hx hb dX0_allWeightIn_43 rfl (lv_at hl 2 rfl) ?_
        exact p_iret E hw hr (Nat.le_of_ble_eq_true rfl) (Nat.le_of_ble_eq_true rfl) rfl dX0_allWeightIn_44
      · refine lv_iload_n hx hb dX0_allWeightIn_12 rfl (lv_at hl 3 rfl) ?_
        refine lv_bipush (v := 24) hx hb dX0_allWeightIn_13 (by decide) ?_
        refine cx_icmp_ge (tgt := 43) E dX0_allWeightIn_15 (by decide) (fun _ => ?_) (fun _ => ?_)
        · refine lv_iload_n hx hb dX0_allWeightIn_43 rfl (lv_at hl 2 rfl) ?_
          exact p_iret E hw hr (Nat.le_of_ble_eq_true rfl) (Nat.le_of_ble_eq_true rfl) rfl dX0_allWeightIn_44
        · refine lv_aload_n hx hb dX0_allWeightIn_18 rfl (lv_at hl 0 rfl) ?_
          refine gx_getR E hw kF_Lands_18_0 (by decide) dX0_allWeightIn_19 (fun v2 _ => ?_)
          refine lv_iload_n hx hb dX0_allWeightIn_22 rfl (lv_at hl 3 rfl) ?_
          refine gx_iald E hw dX0_allWeightIn_23 (fun v3 _ => ?_)
          refine lv_iload_n hx hb dX0_allWeightIn_24 rfl (lv_at hl 1 rfl) ?_
          refine cx_icmp_ne (tgt := 37) E dX0_allWeightIn_25 (by decide) (fun _ => ?_) (fun _ => ?_)
          · refine lv_iinc (v := x3 + 1) (lv' := [(3, .int (x3 + 1)), (0, .ref this), (1, .int a0), (2, .int x2)]) hx hb dX0_allWeightIn_37 hl (k := 3) rfl rfl (by decide) rfl (fun ls hl => ?_)
            refine lv_goto (tgt := 4) hx hb dX0_allWeightIn_40 (by decide) ?_
            exact ih x2 (x3 + 1) _ _ _ hw (lv_sub hl [1, 2, 3, 0] rfl)
          · refine lv_iload_n hx hb dX0_allWeightIn_28 rfl (lv_at hl 2 rfl) ?_
            refine lv_aload_n hx hb dX0_allWeightIn_29 rfl (lv_at hl 0 rfl) ?_
            refine gx_getR E hw kF_Lands_25_0 (by decide) dX0_allWeightIn_30 (fun v4 _ => ?_)
            refine lv_iload_n hx hb dX0_allWeightIn_33 rfl (lv_at hl 3 rfl) ?_
            refine gx_iald E hw dX0_allWeightIn_34 (fun v5 _ => ?_)
            refine lv_iadd hx hb dX0_allWeightIn_35 ?_
            refine lv_istore_n (lv' := [(2, .int (x2 + v5)), (0, .ref this), (1, .int a0), (3, .int x3)]) hx hb dX0_allWeightIn_36 rfl hl (by decide) rfl (fun ls hl => ?_)
            refine lv_iinc (v := x3 + 1) (lv' := [(3, .int (x3 + 1)), (2, .int (x2 + v5)), (0, .ref this), (1, .int a0)]) hx hb dX0_allWeightIn_37 hl (k := 3) rfl rfl (by decide) rfl (fun ls hl => ?_)
            refine lv_goto (tgt := 4) hx hb dX0_allWeightIn_40 (by decide) ?_
            exact ih (x2 + v5) (x3 + 1) _ _ _ hw (lv_sub hl [2, 3, 1, 0] rfl)
  unfold f_Lands_allWeightIn
  refine lv_iconst (v := 0) hx hb dX0_allWeightIn_0 (by decide) ?_
  refine lv_istore_n (lv' := [(2, .int 0), (0, .ref this), (1, .int a0)]) hx hb dX0_allWeightIn_1 rfl hl (by decide) rfl (fun ls hl => ?_)
  refine lv_iconst (v := 0) hx hb dX0_allWeightIn_2 (by decide) ?_
  refine lv_istore_n (lv' := [(3, .int 0), (2, .int 0), (0, .ref this), (1, .int a0)]) hx hb dX0_allWeightIn_3 rfl hl (by decide) rfl (fun ls hl => ?_)
  exact w4  N 0 0 _ _ _ hw (lv_sub hl [2, 3, 1, 0] rfl)
set_option maxHeartbeats 4000000 in
set_option maxRecDepth 100000 in
theorem t_CT_odds (l : Launch) (hfl : l.stackTraces = false) (G : wG) (N : Nat) (this : Nat) (a0 : Int32) (a1 : Int32) (M : Mem) (r : Rho) : Ctr l yX11_odds (wWs yX11_odds cX11_odds 4 (some .int)) rm_CT_odds rm_CT_odds.cells rm_CT_odds.slots G [.ref this, .int a0, .int a1] M r ((f_CT_odds N this a0 a1 M).map (fun z => (z.1.elim (fun v => .inl (some (.int v))) .inr, z.2, r))) := by
  refine Ctr.ofF (own := "CheekTown") (by decide +kernel) hfl rfl (Nat.le_of_ble_eq_true rfl) (fun p e s m args below meth c E hno hr hnm hw ls hl => ?_)
  obtain ⟨hx, hb, hts, hown, hml, hTT, -⟩ := id E
  have hl : lv_has ls 4 [(0, .ref this), (1, .int a0), (2, .int a1)] := hl
  obtain ⟨H, hH⟩ : ∃ H, H = s.heap := ⟨_, rfl⟩
  obtain ⟨locs, hlo⟩ : ∃ L : List Loc, L = [] := ⟨_, rfl⟩
  rw [← hH, ← hlo]
  rw [← hlo] at hw
  replace hw : w_W G M r s H locs := by rw [hH]; exact hw
  unfold f_CT_odds
  refine lv_aload_n hx hb dX11_odds_0 rfl (lv_at hl 0 rfl) ?_
  refine lv_iload_n hx hb dX11_odds_1 rfl (lv_at hl 1 rfl) ?_
  refine W_bind fun _ hck => ?_
  refine W_bind fun z1 hz => ?_
  refine w_afterS (cells1 := 1) (slots1 := 6) (vv := (fun _ => none)) (w_runV E kV_CT_162 kc_X11_needLand (t_CT_needLand l hfl G this a0 M r ((fun z => (z.1.elim (fun _ => .inl none) .inr, z.2, r)) z1) (by rw [hz]; rfl)) ⟨Nat.le_of_ble_eq_true rfl, Nat.le_of_ble_eq_true rfl⟩ hw (w_recv E hw (by decide) ⟨_, _, rfl⟩ (ck_ok hck)) rfl hl.1 rfl (Nat.le_of_ble_eq_true rfl) dX11_odds_2 ⟨Nat.le_of_ble_eq_true rfl, Nat.le_of_ble_eq_true rfl⟩) hw rfl (Nat.le_of_ble_eq_true rfl) (Nat.le_of_ble_eq_true rfl) (fun v2 H locs _ hw => ?_) (fun E9 H locs q ce _ hw hce hcv hcl => w_out E hno hw hce hcv hcl (Nat.le_of_ble_eq_true rfl) (Nat.le_of_ble_eq_true rfl) rfl)
  refine W.eq (g2 := F0 m 5 ls []) rfl ?_
  have hw : w_W G z1.2 r s H locs := hw
  refine lv_iload_n hx hb dX11_odds_5 rfl (lv_at hl 2 rfl) ?_
  refine W_bind fun z3 hz => ?_
  refine w_afterS (cells1 := 2) (slots1 := 12) (vv := (fun _ => none)) (w_runS E kS_CT_149 kc_X11_needGreeting (t_CT_needGreeting l hfl G a1 z1.2 r ((fun z => (z.1.elim (fun _ => .inl none) .inr, z.2, r)) z3) (by rw [hz]; rfl)) ⟨Nat.le_of_ble_eq_true rfl, Nat.le_of_ble_eq_true rfl⟩ hw rfl hl.1 rfl (Nat.le_of_ble_eq_true rfl) dX11_odds_6 ⟨Nat.le_of_ble_eq_true rfl, Nat.le_of_ble_eq_true rfl⟩) hw rfl (Nat.le_of_ble_eq_true rfl) (Nat.le_of_ble_eq_true rfl) (fun v4 H locs _ hw => ?_) (fun E9 H locs q ce _ hw hce hcv hcl => w_out E hno hw hce hcv hcl (Nat.le_of_ble_eq_true rfl) (Nat.le_of_ble_eq_true rfl) rfl)
  refine W.eq (g2 := F0 m 9 ls []) rfl ?_
  have hw : w_W G z3.2 r s H locs := hw
  refine lv_aload_n hx hb dX11_odds_9 rfl (lv_at hl 0 rfl) ?_
  refine gx_getR E hw kF_CT_20_10 (by decide) dX11_odds_10 (fun v5 _ => ?_)
  refine gx_getR E hw kF_CT_116_7 (by decide) dX11_odds_13 (fun v6 _ => ?_)
  refine lv_iload_n hx hb dX11_odds_16 rfl (lv_at hl 1 rfl) ?_
  refine W_bind fun _ hck => ?_
  refine W_bind fun z7 hz => ?_
  refine w_after (cells1 := 2) (slots1 := 12) (w_runV E kV_CT_267 kc_X0_allWeightIn (t_Lands_allWeightIn l hfl G N v6 a0 z3.2 r ((fun z => (.inl (some (.int z)), z3.2, r)) z7) (by rw [hz]; rfl)) ⟨Nat.le_of_ble_eq_true rfl, Nat.le_of_ble_eq_true rfl⟩ hw (w_recv E hw (by decide) ⟨_, _, rfl⟩ (ck_ok hck)) rfl hl.1 rfl (Nat.le_of_ble_eq_true rfl) dX11_odds_17 ⟨Nat.le_of_ble_eq_true rfl, Nat.le_of_ble_eq_true rfl⟩) hw rfl (Nat.le_of_ble_eq_true rfl) (Nat.le_of_ble_eq_true rfl) (fun H locs hw => ?_)
  refine W.eq (g2 := F0 m 20 ls [.int z7]) rfl ?_
  have hw : w_W G z3.2 r s H locs := hw
  refine lv_istore_n (lv' := [(3, .int z7), (0, .ref this), (1, .int a0), (2, .int a1)]) hx hb dX11_odds_20 rfl hl (by decide) rfl (fun ls hl => ?_)
  refine lv_iload_n hx hb dX11_odds_21 rfl (lv_at hl 0 rfl) ?_
  refine cx_if_gt (tgt := 29) E dX11_odds_22 (by decide) (fun _ => ?_) (fun _ => ?_)
  · refine lv_aload_n hx hb dX11_odds_29 rfl (lv_at hl 1 rfl) ?_
    refine gx_getR E hw kF_CT_20_10 (by decide) dX11_odds_30 (fun v8 _ => ?_)
    refine gx_getR E hw kF_CT_116_7 (by decide) dX11_odds_33 (fun v9 _ => ?_)
    refine lv_iload_n hx hb dX11_odds_36 rfl (lv_at hl 2 rfl) ?_
    refine lv_iload_n hx hb dX11_odds_37 rfl (lv_at hl 3 rfl) ?_
    refine W_bind fun _ hck => ?_
    refine W_bind fun z10 hz => ?_
    refine w_after (cells1 := 2) (slots1 := 12) (w_runV E kV_CT_165 kc_X0_weightOf (t_Lands_weightOf l hfl G N v9 a0 a1 z3.2 r ((fun z => (.inl (some (.int z)), z3.2, r)) z10) (by rw [hz]; rfl)) ⟨Nat.le_of_ble_eq_true rfl, Nat.le_of_ble_eq_true rfl⟩ hw (w_recv E hw (by decide) ⟨_, _, rfl⟩ (ck_ok hck)) rfl hl.1 rfl (Nat.le_of_ble_eq_true rfl) dX11_odds_38 ⟨Nat.le_of_ble_eq_true rfl, Nat.le_of_ble_eq_true rfl⟩) hw rfl (Nat.le_of_ble_eq_true rfl) (Nat.le_of_ble_eq_true rfl) (fun H locs hw => ?_)
    refine W.eq (g2 := F0 m 41 ls [.int z10]) rfl ?_
    have hw : w_W G z3.2 r s H locs := hw
    refine lv_sipush (v := 10000) hx hb dX11_odds_41 (by decide) ?_
    refine lv_imul hx hb dX11_odds_44 ?_
    refine lv_iload_n hx hb dX11_odds_45 rfl (lv_at hl 0 rfl) ?_
    refine W_bind fun _ hnz => ?_
    refine lv_idiv hx hb dX11_odds_46 (nz_ok hnz) ?_
    exact p_iret E hw hr (Nat.le_of_ble_eq_true rfl) (Nat.le_of_ble_eq_true rfl) rfl dX11_odds_47
  · refine lv_iconst (v := 0) hx hb dX11_odds_25 (by decide) ?_
    refine lv_goto (tgt := 47) hx hb dX11_odds_26 (by decide) ?_
    exact p_iret E hw hr (Nat.le_of_ble_eq_true rfl) (Nat.le_of_ble_eq_true rfl) rfl dX11_odds_47
set_option maxHeartbeats 4000000 in
set_option maxRecDepth 100000 in
theorem t_CT_weightProduct (l : Launch) (hfl : l.stackTraces = false) (G : wG) (N : Nat) (this : Nat) (a0 : Int32) (a1 : Int32) (M : Mem) (r : Rho) : Ctr l yX11_weightProduct (wWs yX11_weightProduct cX11_weightProduct 6 (some .long)) rm_CT_weightProduct rm_CT_weightProduct.cells rm_CT_weightProduct.slots G [.ref this, .int a0, .int a1] M r ((f_CT_weightProduct N this a0 a1 M).map (fun z => (.inl (some (.long z)), M, r))) := by
  refine Ctr.ofF (own := "CheekTown") (by decide +kernel) hfl rfl (Nat.le_of_ble_eq_true rfl) (fun p e s m args below meth c E hno hr hnm hw ls hl => ?_)
  obtain ⟨hx, hb, hts, hown, hml, hTT, -⟩ := id E
  have hl : lv_has ls 6 [(0, .ref this), (1, .int a0), (2, .int a1)] := hl
  obtain ⟨H, hH⟩ : ∃ H, H = s.heap := ⟨_, rfl⟩
  obtain ⟨locs, hlo⟩ : ∃ L : List Loc, L = [] := ⟨_, rfl⟩
  rw [← hH, ← hlo]
  rw [← hlo] at hw
  replace hw : w_W G M r s H locs := by rw [hH]; exact hw
  have w5 : ∀ (n : Nat) (x3 : Int64) (x5 : Int32) (H : Heap) (locs : List Loc) (ls : Array Slot), w_W G M r s H locs → lv_has ls 6 [(0, .ref this), (1, .int a0), (2, .int a1), (3, .long x3), (5, .int x5)] → W p l e rm_CT_weightProduct s m args below meth c H locs 0 0 (PQ G below args s rm_CT_weightProduct.cells rm_CT_weightProduct.slots (fun z => (.inl (some (.long z)), M, r)) (f_CT_weightProduct_5 N this a0 a1 M n x3 x5)) (F0 m 5 ls []) := by
    intro n
    induction n with
    | zero => intros; exact W_none
    | succ n ih =>
      intro x3 x5 H locs ls hw hl
      rw [f_CT_weightProduct_5]
      refine lv_iload hx hb dX11_weightProduct_5 (lv_at hl 4 rfl) ?_
      refine lv_iload_n hx hb dX11_weightProduct_7 rfl (lv_at hl 2 rfl) ?_
      refine cx_icmp_ge (tgt := 45) E dX11_weightProduct_8 (by decide) (fun _ => ?_) (fun _ => ?_)
      · refine lv_lload_n hx hb dX11_weightProduct_45 rfl (lv_at hl 3 rfl) ?_
        exact p_lret E hw hr (Nat.le_of_ble_eq_true rfl) (Nat.le_of_ble_eq_true rfl) rfl dX11_weightProduct_46
      · refine lv_iload hx hb dX11_weightProduct_11 (lv_at hl 4 rfl) ?_
        refine lv_iconst (v := 4) hx hb dX11_weightProduct_13 (by decide) ?_
        refine cx_icmp_ge (tgt := 45) E dX11_weightProduct_14 (by decide) (fun _ => ?_) (fun _ => ?_)
        · refine lv_lload_n hx hb dX11_weightProduct_45 rfl (lv_at hl 3 rfl) ?_
          exact p_lret E hw hr (Nat.le_of_ble_eq_true rfl) (Nat.le_of_ble_eq_true rfl) rfl dX11_weightProduct_46
        · refine lv_lload_n hx hb dX11_weightProduct_17 rfl (lv_at hl 3 rfl) ?_
          refine lv_aload_n hx hb dX11_weightProduct_18 rfl (lv_at hl 0 rfl) ?_
          refine gx_getR E hw kF_CT_20_10 (by decide) dX11_weightProduct_19 (fun v1 _ => ?_)
          refine gx_getR E hw kF_CT_116_7 (by decide) dX11_weightProduct_22 (fun v2 _ => ?_)
          refine lv_iload_n hx hb dX11_weightProduct_25 rfl (lv_at hl 1 rfl) ?_
          refine lv_aload_n hx hb dX11_weightProduct_26 rfl (lv_at hl 0 rfl) ?_
          refine gx_getR E hw kF_CT_9_10 (by decide) dX11_weightProduct_27 (fun v3 _ => ?_)
          refine lv_iload hx hb dX11_weightProduct_30 (lv_at hl 4 rfl) ?_
          refine gx_iald E hw dX11_weightProduct_32 (fun v4 _ => ?_)
          refine W_bind fun _ hck => ?_
          refine W_bind fun z5 hz => ?_
          refine w_after (cells1 := 0) (slots1 := 0) (w_runV E kV_CT_165 kc_X0_weightOf (t_Lands_weightOf l hfl G N v2 a0 v4 M r ((fun z => (.inl (some (.int z)), M, r)) z5) (by rw [hz]; rfl)) ⟨Nat.le_of_ble_eq_true rfl, Nat.le_of_ble_eq_true rfl⟩ hw (w_recv E hw (by decide) ⟨_, _, rfl⟩ (ck_ok hck)) rfl hl.1 rfl (Nat.le_of_ble_eq_true rfl) dX11_weightProduct_33 ⟨Nat.le_of_ble_eq_true rfl, Nat.le_of_ble_eq_true rfl⟩) hw rfl (Nat.le_of_ble_eq_true rfl) (Nat.le_of_ble_eq_true rfl) (fun H locs hw => ?_)
          refine W.eq (g2 := F0 m 36 ls [.int z5, .long x3]) rfl ?_
          have hw : w_W G M r s H locs := hw
          refine lv_i2l (v := Int32.toInt64 z5) hx hb dX11_weightProduct_36 rfl ?_
          refine lv_lmul hx hb dX11_weightProduct_37 ?_
          refine lv_lstore_n (lv' := [(3, .long (x3 * (Int32.toInt64 z5))), (0, .ref this), (1, .int a0), (2, .int a1), (5, .int x5)]) hx hb dX11_weightProduct_38 rfl hl (by decide) rfl (fun ls hl => ?_)
          refine lv_iinc (v := x5 + 1) (lv' := [(5, .int (x5 + 1)), (3, .long (x3 * (Int32.toInt64 z5))), (0, .ref this), (1, .int a0), (2, .int a1)]) hx hb dX11_weightProduct_39 hl (k := 4) rfl rfl (by decide) rfl (fun ls hl => ?_)
          refine lv_goto (tgt := 5) hx hb dX11_weightProduct_42 (by decide) ?_
          exact ih (x3 * (Int32.toInt64 z5)) (x5 + 1) _ _ _ hw (lv_sub hl [2, 3, 4, 1, 0] rfl)
  unfold f_CT_weightProduct
  refine lv_lconst (v := 1) hx hb dX11_weightProduct_0 (by decide) ?_
  refine lv_lstore_n (lv' := [(3, .long 1), (0, .ref this), (1, .int a0), (2, .int a1)]) hx hb dX11_weightProduct_1 rfl hl (by decide) rfl (fun ls hl => ?_)
  refine lv_iconst (v := 0) hx hb dX11_weightProduct_2 (by decide) ?_
  refine lv_istore (lv' := [(5, .int 0), (3, .long 1), (0, .ref this), (1, .int a0), (2, .int a1)]) hx hb dX11_weightProduct_3 hl (by decide) rfl (fun ls hl => ?_)
  exact w5  N 1 0 _ _ _ hw (lv_sub hl [2, 3, 4, 1, 0] rfl)
set_option maxHeartbeats 4000000 in
set_option maxRecDepth 100000 in
theorem t_CT_allWeightProduct (l : Launch) (hfl : l.stackTraces = false) (G : wG) (N : Nat) (this : Nat) (a0 : Int32) (a1 : Int32) (M : Mem) (r : Rho) : Ctr l yX11_allWeightProduct (wWs yX11_allWeightProduct cX11_allWeightProduct 6 (some .long)) rm_CT_allWeightProduct rm_CT_allWeightProduct.cells rm_CT_allWeightProduct.slots G [.ref this, .int a0, .int a1] M r ((f_CT_allWeightProduct N this a0 a1 M).map (fun z => (.inl (some (.long z)), M, r))) := by
  refine Ctr.ofF (own := "CheekTown") (by decide +kernel) hfl rfl (Nat.le_of_ble_eq_true rfl) (fun p e s m args below meth c E hno hr hnm hw ls hl => ?_)
  obtain ⟨hx, hb, hts, hown, hml, hTT, -⟩ := id E
  have hl : lv_has ls 6 [(0, .ref this), (1, .int a0), (2, .int a1)] := hl
  obtain ⟨H, hH⟩ : ∃ H, H = s.heap := ⟨_, rfl⟩
  obtain ⟨locs, hlo⟩ : ∃ L : List Loc, L = [] := ⟨_, rfl⟩
  rw [← hH, ← hlo]
  rw [← hlo] at hw
  replace hw : w_W G M r s H locs := by rw [hH]; exact hw
  have w5 : ∀ (n : Nat) (x3 : Int64) (x5 : Int32) (H : Heap) (locs : List Loc) (ls : Array Slot), w_W G M r s H locs → lv_has ls 6 [(0, .ref this), (1, .int a0), (2, .int a1), (3, .long x3), (5, .int x5)] → W p l e rm_CT_allWeightProduct s m args below meth c H locs 0 0 (PQ G below args s rm_CT_allWeightProduct.cells rm_CT_allWeightProduct.slots (fun z => (.inl (some (.long z)), M, r)) (f_CT_allWeightProduct_5 N this a0 a1 M n x3 x5)) (F0 m 5 ls []) := by
    intro n
    induction n with
    | zero => intros; exact W_none
    | succ n ih =>
      intro x3 x5 H locs ls hw hl
      rw [f_CT_allWeightProduct_5]
      refine lv_iload hx hb dX11_allWeightProduct_5 (lv_at hl 4 rfl) ?_
      refine lv_iload_n hx hb dX11_allWeightProduct_7 rfl (lv_at hl 2 rfl) ?_
      refine cx_icmp_ge (tgt := 38) E dX11_allWeightProduct_8 (by decide) (fun _ => ?_) (fun _ => ?_)
      · refine lv_lload_n hx hb dX11_allWeightProduct_38 rfl (lv_at hl 3 rfl) ?_
        exact p_lret E hw hr (Nat.le_of_ble_eq_true rfl) (Nat.le_of_ble_eq_true rfl) rfl dX11_allWeightProduct_39
      · refine lv_iload hx hb dX11_allWeightProduct_11 (lv_at hl 4 rfl) ?_
        refine lv_iconst (v := 4) hx hb dX11_allWeightProduct_13 (by decide) ?_
        refine cx_icmp_ge (tgt := 38) E dX11_allWeightProduct_14 (by decide) (fun _ => ?_) (fun _ => ?_)
        · refine lv_lload_n hx hb dX11_allWeightProduct_38 rfl (lv_at hl 3 rfl) ?_
          exact p_lret E hw hr (Nat.le_of_ble_eq_true rfl) (Nat.le_of_ble_eq_true rfl) rfl dX11_allWeightProduct_39
        · refine lv_lload_n hx hb dX11_allWeightProduct_17 rfl (lv_at hl 3 rfl) ?_
          refine lv_aload_n hx hb dX11_allWeightProduct_18 rfl (lv_at hl 0 rfl) ?_
          refine gx_getR E hw kF_CT_20_10 (by decide) dX11_allWeightProduct_19 (fun v1 _ => ?_)
          refine gx_getR E hw kF_CT_116_7 (by decide) dX11_allWeightProduct_22 (fun v2 _ => ?_)
          refine lv_iload_n hx hb dX11_allWeightProduct_25 rfl (lv_at hl 1 rfl) ?_
          refine W_bind fun _ hck => ?_
          refine W_bind fun z3 hz => ?_
          refine w_after (cells1 := 0) (slots1 := 0) (w_runV E kV_CT_267 kc_X0_allWeightIn (t_Lands_allWeightIn l hfl G N v2 a0 M r ((fun z => (.inl (some (.int z)), M, r)) z3) (by rw [hz]; rfl)) ⟨Nat.le_of_ble_eq_true rfl, Nat.le_of_ble_eq_true rfl⟩ hw (w_recv E hw (by decide) ⟨_, _, rfl⟩ (ck_ok hck)) rfl hl.1 rfl (Nat.le_of_ble_eq_true rfl) dX11_allWeightProduct_26 ⟨Nat.le_of_ble_eq_true rfl, Nat.le_of_ble_eq_true rfl⟩) hw rfl (Nat.le_of_ble_eq_true rfl) (Nat.le_of_ble_eq_true rfl) (fun H locs hw => ?_)
          refine W.eq (g2 := F0 m 29 ls [.int z3, .long x3]) rfl ?_
          have hw : w_W G M r s H locs := hw
          refine lv_i2l (v := Int32.toInt64 z3) hx hb dX11_allWeightProduct_29 rfl ?_
          refine lv_lmul hx hb dX11_allWeightProduct_30 ?_
          refine lv_lstore_n (lv' := [(3, .long (x3 * (Int32.toInt64 z3))), (0, .ref this), (1, .int a0), (2, .int a1), (5, .int x5)]) hx hb dX11_allWeightProduct_31 rfl hl (by decide) rfl (fun ls hl => ?_)
          refine lv_iinc (v := x5 + 1) (lv' := [(5, .int (x5 + 1)), (3, .long (x3 * (Int32.toInt64 z3))), (0, .ref this), (1, .int a0), (2, .int a1)]) hx hb dX11_allWeightProduct_32 hl (k := 4) rfl rfl (by decide) rfl (fun ls hl => ?_)
          refine lv_goto (tgt := 5) hx hb dX11_allWeightProduct_35 (by decide) ?_
          exact ih (x3 * (Int32.toInt64 z3)) (x5 + 1) _ _ _ hw (lv_sub hl [2, 3, 4, 1, 0] rfl)
  unfold f_CT_allWeightProduct
  refine lv_lconst (v := 1) hx hb dX11_allWeightProduct_0 (by decide) ?_
  refine lv_lstore_n (lv' := [(3, .long 1), (0, .ref this), (1, .int a0), (2, .int a1)]) hx hb dX11_allWeightProduct_1 rfl hl (by decide) rfl (fun ls hl => ?_)
  refine lv_iconst (v := 0) hx hb dX11_allWeightProduct_2 (by decide) ?_
  refine lv_istore (lv' := [(5, .int 0), (3, .long 1), (0, .ref this), (1, .int a0), (2, .int a1)]) hx hb dX11_allWeightProduct_3 hl (by decide) rfl (fun ls hl => ?_)
  exact w5  N 1 0 _ _ _ hw (lv_sub hl [2, 3, 4, 1, 0] rfl)
set_option maxHeartbeats 4000000 in
set_option maxRecDepth 100000 in
theorem t_CT_likeliestLand (l : Launch) (hfl : l.stackTraces = false) (G : wG) (N : Nat) (this : Nat) (a0 : Int32) (M : Mem) (r : Rho) : Ctr l yX11_likeliestLand (wWs yX11_likeliestLand cX11_likeliestLand 13 (some .int)) rm_CT_likeliestLand rm_CT_likeliestLand.cells rm_CT_likeliestLand.slots G [.ref this, .int a0] M r ((f_CT_likeliestLand N this a0 M).map (fun z => (.inl (some (.int z)), M, r))) := by
  refine Ctr.ofF (own := "CheekTown") (by decide +kernel) hfl rfl (Nat.le_of_ble_eq_true rfl) (fun p e s m args below meth c E hno hr hnm hw ls hl => ?_)
  obtain ⟨hx, hb, hts, hown, hml, hTT, -⟩ := id E
  have hl : lv_has ls 13 [(0, .ref this), (1, .int a0)] := hl
  obtain ⟨H, hH⟩ : ∃ H, H = s.heap := ⟨_, rfl⟩
  obtain ⟨locs, hlo⟩ : ∃ L : List Loc, L = [] := ⟨_, rfl⟩
  rw [← hH, ← hlo]
  rw [← hlo] at hw
  replace hw : w_W G M r s H locs := by rw [hH]; exact hw
  have w63 : ∀ (k10 : Int32 → Int64 → Int64 → Int32 → Option (Int32)) (hk10 : ∀ (x2 : Int32) (x3 : Int64) (x5 : Int64) (x7 : Int32) (H : Heap) (locs : List Loc) (ls : Array Slot), w_W G M r s H locs → lv_has ls 13 [(0, .ref this), (1, .int a0), (2, .int x2), (3, .long x3), (5, .long x5), (7, .int x7)] → W p l e rm_CT_likeliestLand s m args below meth c H locs 0 0 (PQ G below args s rm_CT_likeliestLand.cells rm_CT_likeliestLand.slots (fun z => (.inl (some (.int z)), M, r)) (k10 x2 x3 x5 x7)) (F0 m 10 ls [])) (x2 : Int32) (x3 : Int64) (x5 : Int64) (x7 : Int32) (x8 : Int64) (x10 : Int64) (y0 : Int32) (H : Heap) (locs : List Loc) (ls : Array Slot), w_W G M r s H locs → lv_has ls 13 [(0, .ref this), (1, .int a0), (2, .int x2), (3, .long x3), (5, .long x5), (7, .int x7), (8, .long x8), (10, .long x10)] → W p l e rm_CT_likeliestLand s m args below meth c H locs 0 0 (PQ G below args s rm_CT_likeliestLand.cells rm_CT_likeliestLand.slots (fun z => (.inl (some (.int z)), M, r)) (f_CT_likeliestLand_63 N this a0 M k10 x2 x3 x5 x7 x8 x10 y0)) (F0 m 63 ls [.int y0]) := by
    intro k10 hk10 x2 x3 x5 x7 x8 x10 y0 H locs ls hw hl
    unfold f_CT_likeliestLand_63
    refine lv_istore (lv' := [(12, .int y0), (0, .ref this), (1, .int a0), (2, .int x2), (3, .long x3), (5, .long x5), (7, .int x7), (8, .long x8), (10, .long x10)]) hx hb dX11_likeliestLand_63 hl (by decide) rfl (fun ls hl => ?_)
    refine lv_iload hx hb dX11_likeliestLand_65 (lv_at hl 0 rfl) ?_
    refine cx_if_eq (tgt := 93) E dX11_likeliestLand_67 (by decide) (fun _ => ?_) (fun _ => ?_)
    · refine lv_iinc (v := x7 + 1) (lv' := [(7, .int (x7 + 1)), (12, .int y0), (0, .ref this), (1, .int a0), (2, .int x2), (3, .long x3), (5, .long x5), (8, .long x8), (10, .long x10)]) hx hb dX11_likeliestLand_93 hl (k := 6) rfl rfl (by decide) rfl (fun ls hl => ?_)
      refine lv_goto (tgt := 10) hx hb dX11_likeliestLand_96 (by decide) ?_
      exact hk10 x2 x3 x5 (x7 + 1) _ _ _ hw (lv_sub hl [2, 3, 4, 5, 6, 0] rfl)
    · refine lv_lload hx hb dX11_likeliestLand_70 (lv_at hl 7 rfl) ?_
      refine lv_lload hx hb dX11_likeliestLand_72 (lv_at hl 5 rfl) ?_
      refine lv_lmul hx hb dX11_likeliestLand_74 ?_
      refine lv_lload_n hx hb dX11_likeliestLand_75 rfl (lv_at hl 4 rfl) ?_
      refine lv_lload hx hb dX11_likeliestLand_76 (lv_at hl 8 rfl) ?_
      refine lv_lmul hx hb dX11_likeliestLand_78 ?_
      refine W.lcmp hx hb dX11_likeliestLand_79 ?_
      refine cx_if_le (tgt := 93) E dX11_likeliestLand_80 (by decide) (fun _ => ?_) (fun _ => ?_)
      · refine lv_iinc (v := x7 + 1) (lv' := [(7, .int (x7 + 1)), (12, .int y0), (0, .ref this), (1, .int a0), (2, .int x2), (3, .long x3), (5, .long x5), (8, .long x8), (10, .long x10)]) hx hb dX11_likeliestLand_93 hl (k := 6) rfl rfl (by decide) rfl (fun ls hl => ?_)
        refine lv_goto (tgt := 10) hx hb dX11_likeliestLand_96 (by decide) ?_
        exact hk10 x2 x3 x5 (x7 + 1) _ _ _ hw (lv_sub hl [2, 3, 4, 5, 6, 0] rfl)
      · refine lv_iload hx hb dX11_likeliestLand_83 (lv_at hl 6 rfl) ?_
        refine lv_istore_n (lv' := [(2, .int x7), (12, .int y0), (0, .ref this), (1, .int a0), (3, .long x3), (5, .long x5), (7, .int x7), (8, .long x8), (10, .long x10)]) hx hb dX11_likeliestLand_85 rfl hl (by decide) rfl (fun ls hl => ?_)
        refine lv_lload hx hb dX11_likeliestLand_86 (lv_at hl 7 rfl) ?_
        refine lv_lstore_n (lv' := [(3, .long x8), (2, .int x7), (12, .int y0), (0, .ref this), (1, .int a0), (5, .long x5), (7, .int x7), (8, .long x8), (10, .long x10)]) hx hb dX11_likeliestLand_88 rfl hl (by decide) rfl (fun ls hl => ?_)
        refine lv_lload hx hb dX11_likeliestLand_89 (lv_at hl 8 rfl) ?_
        refine lv_lstore (lv' := [(5, .long x10), (3, .long x8), (2, .int x7), (12, .int y0), (0, .ref this), (1, .int a0), (7, .int x7), (8, .long x8), (10, .long x10)]) hx hb dX11_likeliestLand_91 hl (by decide) rfl (fun ls hl => ?_)
        refine lv_iinc (v := x7 + 1) (lv' := [(7, .int (x7 + 1)), (5, .long x10), (3, .long x8), (2, .int x7), (12, .int y0), (0, .ref this), (1, .int a0), (8, .long x8), (10, .long x10)]) hx hb dX11_likeliestLand_93 hl (k := 6) rfl rfl (by decide) rfl (fun ls hl => ?_)
        refine lv_goto (tgt := 10) hx hb dX11_likeliestLand_96 (by decide) ?_
        exact hk10 x7 x8 x10 (x7 + 1) _ _ _ hw (lv_sub hl [5, 6, 3, 2, 1, 0] rfl)
  have w10 : ∀ (n : Nat) (x2 : Int32) (x3 : Int64) (x5 : Int64) (x7 : Int32) (H : Heap) (locs : List Loc) (ls : Array Slot), w_W G M r s H locs → lv_has ls 13 [(0, .ref this), (1, .int a0), (2, .int x2), (3, .long x3), (5, .long x5), (7, .int x7)] → W p l e rm_CT_likeliestLand s m args below meth c H locs 0 0 (PQ G below args s rm_CT_likeliestLand.cells rm_CT_likeliestLand.slots (fun z => (.inl (some (.int z)), M, r)) (f_CT_likeliestLand_10 N this a0 M n x2 x3 x5 x7)) (F0 m 10 ls []) := by
    intro n
    induction n with
    | zero => intros; exact W_none
    | succ n ih =>
      intro x2 x3 x5 x7 H locs ls hw hl
      rw [f_CT_likeliestLand_10]
      refine lv_iload hx hb dX11_likeliestLand_10 (lv_at hl 5 rfl) ?_
      refine lv_aload_n hx hb dX11_likeliestLand_12 rfl (lv_at hl 0 rfl) ?_
      refine gx_getR E hw kF_CT_20_10 (by decide) dX11_likeliestLand_13 (fun v1 _ => ?_)
      refine gx_getR E hw kF_CT_116_7 (by decide) dX11_likeliestLand_16 (fun v2 _ => ?_)
      refine gx_getI E hw kF_CT_120_0 (by decide) dX11_likeliestLand_19 (fun v3 _ => ?_)
      refine cx_icmp_ge (tgt := 99) E dX11_likeliestLand_22 (by decide) (fun _ => ?_) (fun _ => ?_)
      · refine lv_iload_n hx hb dX11_likeliestLand_99 rfl (lv_at hl 2 rfl) ?_
        exact p_iret E hw hr (Nat.le_of_ble_eq_true rfl) (Nat.le_of_ble_eq_true rfl) rfl dX11_likeliestLand_100
      · refine lv_aload_n hx hb dX11_likeliestLand_25 rfl (lv_at hl 0 rfl) ?_
        refine lv_iload hx hb dX11_likeliestLand_26 (lv_at hl 5 rfl) ?_
        refine lv_iload_n hx hb dX11_likeliestLand_28 rfl (lv_at hl 1 rfl) ?_
        refine W_bind fun _ hck => ?_
        refine W_bind fun z4 hz => ?_
        refine w_after (cells1 := 0) (slots1 := 0) (w_runV E kV_CT_278 kc_X11_weightProduct (t_CT_weightProduct l hfl G N this x7 a0 M r ((fun z => (.inl (some (.long z)), M, r)) z4) (by rw [hz]; rfl)) ⟨Nat.le_of_ble_eq_true rfl, Nat.le_of_ble_eq_true rfl⟩ hw (w_recv E hw (by decide) ⟨_, _, rfl⟩ (ck_ok hck)) rfl hl.1 rfl (Nat.le_of_ble_eq_true rfl) dX11_likeliestLand_29 ⟨Nat.le_of_ble_eq_true rfl, Nat.le_of_ble_eq_true rfl⟩) hw rfl (Nat.le_of_ble_eq_true rfl) (Nat.le_of_ble_eq_true rfl) (fun H locs hw => ?_)
        refine W.eq (g2 := F0 m 32 ls [.long z4]) rfl ?_
        have hw : w_W G M r s H locs := hw
        refine lv_lstore (lv' := [(8, .long z4), (0, .ref this), (1, .int a0), (2, .int x2), (3, .long x3), (5, .long x5), (7, .int x7)]) hx hb dX11_likeliestLand_32 hl (by decide) rfl (fun ls hl => ?_)
        refine lv_aload_n hx hb dX11_likeliestLand_34 rfl (lv_at hl 1 rfl) ?_
        refine lv_iload hx hb dX11_likeliestLand_35 (lv_at hl 6 rfl) ?_
        refine lv_iload_n hx hb dX11_likeliestLand_37 rfl (lv_at hl 2 rfl) ?_
        refine W_bind fun _ hck => ?_
        refine W_bind fun z5 hz => ?_
        refine w_after (cells1 := 0) (slots1 := 0) (w_runV E kV_CT_282 kc_X11_allWeightProduct (t_CT_allWeightProduct l hfl G N this x7 a0 M r ((fun z => (.inl (some (.long z)), M, r)) z5) (by rw [hz]; rfl)) ⟨Nat.le_of_ble_eq_true rfl, Nat.le_of_ble_eq_true rfl⟩ hw (w_recv E hw (by decide) ⟨_, _, rfl⟩ (ck_ok hck)) rfl hl.1 rfl (Nat.le_of_ble_eq_true rfl) dX11_likeliestLand_38 ⟨Nat.le_of_ble_eq_true rfl, Nat.le_of_ble_eq_true rfl⟩) hw rfl (Nat.le_of_ble_eq_true rfl) (Nat.le_of_ble_eq_true rfl) (fun H locs hw => ?_)
        refine W.eq (g2 := F0 m 41 ls [.long z5]) rfl ?_
        have hw : w_W G M r s H locs := hw
        refine lv_lstore (lv' := [(10, .long z5), (8, .long z4), (0, .ref this), (1, .int a0), (2, .int x2), (3, .long x3), (5, .long x5), (7, .int x7)]) hx hb dX11_likeliestLand_41 hl (by decide) rfl (fun ls hl => ?_)
        refine lv_aload_n hx hb dX11_likeliestLand_43 rfl (lv_at hl 2 rfl) ?_
        refine gx_getR E hw kF_CT_20_10 (by decide) dX11_likeliestLand_44 (fun v6 _ => ?_)
        refine gx_getR E hw kF_CT_116_7 (by decide) dX11_likeliestLand_47 (fun v7 _ => ?_)
        refine lv_iload hx hb dX11_likeliestLand_50 (lv_at hl 7 rfl) ?_
        refine W_bind fun _ hck => ?_
        refine W_bind fun z8 hz => ?_
        refine w_after (cells1 := 0) (slots1 := 0) (w_runV E kV_CT_267 kc_X0_allWeightIn (t_Lands_allWeightIn l hfl G N v7 x7 M r ((fun z => (.inl (some (.int z)), M, r)) z8) (by rw [hz]; rfl)) ⟨Nat.le_of_ble_eq_true rfl, Nat.le_of_ble_eq_true rfl⟩ hw (w_recv E hw (by decide) ⟨_, _, rfl⟩ (ck_ok hck)) rfl hl.1 rfl (Nat.le_of_ble_eq_true rfl) dX11_likeliestLand_52 ⟨Nat.le_of_ble_eq_true rfl, Nat.le_of_ble_eq_true rfl⟩) hw rfl (Nat.le_of_ble_eq_true rfl) (Nat.le_of_ble_eq_true rfl) (fun H locs hw => ?_)
        refine W.eq (g2 := F0 m 55 ls [.int z8]) rfl ?_
        have hw : w_W G M r s H locs := hw
        refine cx_if_le (tgt := 62) E dX11_likeliestLand_55 (by decide) (fun _ => ?_) (fun _ => ?_)
        · refine lv_iconst (v := 0) hx hb dX11_likeliestLand_62 (by decide) ?_
          exact w63 (f_CT_likeliestLand_10 N this a0 M n) ih x2 x3 x5 x7 z4 z5 0 _ _ _ hw (lv_sub hl [2, 3, 4, 5, 6, 7, 1, 0] rfl)
        · refine lv_iconst (v := 1) hx hb dX11_likeliestLand_58 (by decide) ?_
          refine lv_goto (tgt := 63) hx hb dX11_likeliestLand_59 (by decide) ?_
          exact w63 (f_CT_likeliestLand_10 N this a0 M n) ih x2 x3 x5 x7 z4 z5 1 _ _ _ hw (lv_sub hl [2, 3, 4, 5, 6, 7, 1, 0] rfl)
  unfold f_CT_likeliestLand
  refine lv_iconst (v := (-1)) hx hb dX11_likeliestLand_0 (by decide) ?_
  refine lv_istore_n (lv' := [(2, .int (-1)), (0, .ref this), (1, .int a0)]) hx hb dX11_likeliestLand_1 rfl hl (by decide) rfl (fun ls hl => ?_)
  refine lv_lconst (v := 0) hx hb dX11_likeliestLand_2 (by decide) ?_
  refine lv_lstore_n (lv' := [(3, .long 0), (2, .int (-1)), (0, .ref this), (1, .int a0)]) hx hb dX11_likeliestLand_3 rfl hl (by decide) rfl (fun ls hl => ?_)
  refine lv_lconst (v := 1) hx hb dX11_likeliestLand_4 (by decide) ?_
  refine lv_lstore (lv' := [(5, .long 1), (3, .long 0), (2, .int (-1)), (0, .ref this), (1, .int a0)]) hx hb dX11_likeliestLand_5 hl (by decide) rfl (fun ls hl => ?_)
  refine lv_iconst (v := 0) hx hb dX11_likeliestLand_7 (by decide) ?_
  refine lv_istore (lv' := [(7, .int 0), (5, .long 1), (3, .long 0), (2, .int (-1)), (0, .ref this), (1, .int a0)]) hx hb dX11_likeliestLand_8 hl (by decide) rfl (fun ls hl => ?_)
  exact w10  N (-1) 0 1 0 _ _ _ hw (lv_sub hl [4, 5, 3, 2, 1, 0] rfl)
set_option maxHeartbeats 4000000 in
set_option maxRecDepth 100000 in
theorem t_CT_likelyLands (l : Launch) (hfl : l.stackTraces = false) (G : wG) (N : Nat) (this : Nat) (a0 : Int32) (M : Mem) (r : Rho) : Ctr l yX11_likelyLands (wWs yX11_likelyLands cX11_likelyLands 4 (some .int)) rm_CT_likelyLands rm_CT_likelyLands.cells rm_CT_likelyLands.slots G [.ref this, .int a0] M r ((f_CT_likelyLands N this a0 M).map (fun z => (.inl (some (.int z)), M, r))) := by
  refine Ctr.ofF (own := "CheekTown") (by decide +kernel) hfl rfl (Nat.le_of_ble_eq_true rfl) (fun p e s m args below meth c E hno hr hnm hw ls hl => ?_)
  obtain ⟨hx, hb, hts, hown, hml, hTT, -⟩ := id E
  have hl : lv_has ls 4 [(0, .ref this), (1, .int a0)] := hl
  obtain ⟨H, hH⟩ : ∃ H, H = s.heap := ⟨_, rfl⟩
  obtain ⟨locs, hlo⟩ : ∃ L : List Loc, L = [] := ⟨_, rfl⟩
  rw [← hH, ← hlo]
  rw [← hlo] at hw
  replace hw : w_W G M r s H locs := by rw [hH]; exact hw
  have w4 : ∀ (n : Nat) (x2 : Int32) (x3 : Int32) (H : Heap) (locs : List Loc) (ls : Array Slot), w_W G M r s H locs → lv_has ls 4 [(0, .ref this), (1, .int a0), (2, .int x2), (3, .int x3)] → W p l e rm_CT_likelyLands s m args below meth c H locs 0 0 (PQ G below args s rm_CT_likelyLands.cells rm_CT_likelyLands.slots (fun z => (.inl (some (.int z)), M, r)) (f_CT_likelyLands_4 N this a0 M n x2 x3)) (F0 m 4 ls []) := by
    intro n
    induction n with
    | zero => intros; exact W_none
    | succ n ih =>
      intro x2 x3 H locs ls hw hl
      rw [f_CT_likelyLands_4]
      refine lv_iload_n hx hb dX11_likelyLands_4 rfl (lv_at hl 3 rfl) ?_
      refine lv_aload_n hx hb dX11_likelyLands_5 rfl (lv_at hl 0 rfl) ?_
      refine gx_getR E hw kF_CT_20_10 (by decide) dX11_likelyLands_6 (fun v1 _ => ?_)
      refine gx_getR E hw kF_CT_116_7 (by decide) dX11_likelyLands_9 (fun v2 _ => ?_)
      refine gx_getI E hw kF_CT_120_0 (by decide) dX11_likelyLands_12 (fun v3 _ => ?_)
      refine cx_icmp_ge (tgt := 55) E dX11_likelyLands_15 (by decide) (fun _ => ?_) (fun _ => ?_)
      · refine lv_iload_n hx hb dX11_likelyLands_55 rfl (lv_at hl 2 rfl) ?_
        exact p_iret E hw hr (Nat.le_of_ble_eq_true rfl) (Nat.le_of_ble_eq_true rfl) rfl dX11_likelyLands_56
      · refine lv_aload_n hx hb dX11_likelyLands_18 rfl (lv_at hl 0 rfl) ?_
        refine gx_getR E hw kF_CT_20_10 (by decide) dX11_likelyLands_19 (fun v4 _ => ?_)
        refine gx_getR E hw kF_CT_116_7 (by decide) dX11_likelyLands_22 (fun v5 _ => ?_)
        refine lv_iload_n hx hb dX11_likelyLands_25 rfl (lv_at hl 3 rfl) ?_
        refine W_bind fun _ hck => ?_
        refine W_bind fun z6 hz => ?_
        refine w_after (cells1 := 0) (slots1 := 0) (w_runV E kV_CT_267 kc_X0_allWeightIn (t_Lands_allWeightIn l hfl G N v5 x3 M r ((fun z => (.inl (some (.int z)), M, r)) z6) (by rw [hz]; rfl)) ⟨Nat.le_of_ble_eq_true rfl, Nat.le_of_ble_eq_true rfl⟩ hw (w_recv E hw (by decide) ⟨_, _, rfl⟩ (ck_ok hck)) rfl hl.1 rfl (Nat.le_of_ble_eq_true rfl) dX11_likelyLands_26 ⟨Nat.le_of_ble_eq_true rfl, Nat.le_of_ble_eq_true rfl⟩) hw rfl (Nat.le_of_ble_eq_true rfl) (Nat.le_of_ble_eq_true rfl) (fun H locs hw => ?_)
        refine W.eq (g2 := F0 m 29 ls [.int z6]) rfl ?_
        have hw : w_W G M r s H locs := hw
        refine cx_if_le (tgt := 49) E dX11_likelyLands_29 (by decide) (fun _ => ?_) (fun _ => ?_)
        · refine lv_iinc (v := x3 + 1) (lv' := [(3, .int (x3 + 1)), (0, .ref this), (1, .int a0), (2, .int x2)]) hx hb dX11_likelyLands_49 hl (k := 3) rfl rfl (by decide) rfl (fun ls hl => ?_)
          refine lv_goto (tgt := 4) hx hb dX11_likelyLands_52 (by decide) ?_
          exact ih x2 (x3 + 1) _ _ _ hw (lv_sub hl [1, 2, 3, 0] rfl)
        · refine lv_aload_n hx hb dX11_likelyLands_32 rfl (lv_at hl 0 rfl) ?_
          refine lv_iload_n hx hb dX11_likelyLands_33 rfl (lv_at hl 3 rfl) ?_
          refine lv_iload_n hx hb dX11_likelyLands_34 rfl (lv_at hl 1 rfl) ?_
          refine W_bind fun _ hck => ?_
          refine W_bind fun z7 hz => ?_
          refine w_after (cells1 := 0) (slots1 := 0) (w_runV E kV_CT_278 kc_X11_weightProduct (t_CT_weightProduct l hfl G N this x3 a0 M r ((fun z => (.inl (some (.long z)), M, r)) z7) (by rw [hz]; rfl)) ⟨Nat.le_of_ble_eq_true rfl, Nat.le_of_ble_eq_true rfl⟩ hw (w_recv E hw (by decide) ⟨_, _, rfl⟩ (ck_ok hck)) rfl hl.1 rfl (Nat.le_of_ble_eq_true rfl) dX11_likelyLands_35 ⟨Nat.le_of_ble_eq_true rfl, Nat.le_of_ble_eq_true rfl⟩) hw rfl (Nat.le_of_ble_eq_true rfl) (Nat.le_of_ble_eq_true rfl) (fun H locs hw => ?_)
          refine W.eq (g2 := F0 m 38 ls [.long z7]) rfl ?_
          have hw : w_W G M r s H locs := hw
          refine lv_lconst (v := 0) hx hb dX11_likelyLands_38 (by decide) ?_
          refine W.lcmp hx hb dX11_likelyLands_39 ?_
          refine cx_if_le (tgt := 49) E dX11_likelyLands_40 (by decide) (fun _ => ?_) (fun _ => ?_)
          · refine lv_iinc (v := x3 + 1) (lv' := [(3, .int (x3 + 1)), (0, .ref this), (1, .int a0), (2, .int x2)]) hx hb dX11_likelyLands_49 hl (k := 3) rfl rfl (by decide) rfl (fun ls hl => ?_)
            refine lv_goto (tgt := 4) hx hb dX11_likelyLands_52 (by decide) ?_
            exact ih x2 (x3 + 1) _ _ _ hw (lv_sub hl [1, 2, 3, 0] rfl)
          · refine lv_iload_n hx hb dX11_likelyLands_43 rfl (lv_at hl 2 rfl) ?_
            refine lv_iconst (v := 1) hx hb dX11_likelyLands_44 (by decide) ?_
            refine lv_iload_n hx hb dX11_likelyLands_45 rfl (lv_at hl 3 rfl) ?_
            refine lv_ishl hx hb dX11_likelyLands_46 ?_
            refine lv_ior hx hb dX11_likelyLands_47 ?_
            refine lv_istore_n (lv' := [(2, .int (x2 ||| (1 <<< (x3 &&& 31)))), (0, .ref this), (1, .int a0), (3, .int x3)]) hx hb dX11_likelyLands_48 rfl hl (by decide) rfl (fun ls hl => ?_)
            refine lv_iinc (v := x3 + 1) (lv' := [(3, .int (x3 + 1)), (2, .int (x2 ||| (1 <<< (x3 &&& 31)))), (0, .ref this), (1, .int a0)]) hx hb dX11_likelyLands_49 hl (k := 3) rfl rfl (by decide) rfl (fun ls hl => ?_)
            refine lv_goto (tgt := 4) hx hb dX11_likelyLands_52 (by decide) ?_
            exact ih (x2 ||| (1 <<< (x3 &&& 31))) (x3 + 1) _ _ _ hw (lv_sub hl [2, 3, 1, 0] rfl)
  unfold f_CT_likelyLands
  refine lv_iconst (v := 0) hx hb dX11_likelyLands_0 (by decide) ?_
  refine lv_istore_n (lv' := [(2, .int 0), (0, .ref this), (1, .int a0)]) hx hb dX11_likelyLands_1 rfl hl (by decide) rfl (fun ls hl => ?_)
  refine lv_iconst (v := 0) hx hb dX11_likelyLands_2 (by decide) ?_
  refine lv_istore_n (lv' := [(3, .int 0), (2, .int 0), (0, .ref this), (1, .int a0)]) hx hb dX11_likelyLands_3 rfl hl (by decide) rfl (fun ls hl => ?_)
  exact w4  N 0 0 _ _ _ hw (lv_sub hl [2, 3, 1, 0] rfl)
set_option maxHeartbeats 4000000 in
set_option maxRecDepth 100000 in
theorem t_CT_from (l : Launch) (hfl : l.stackTraces = false) (G : wG) (N : Nat) (this : Nat) (a0 : Int32) (M : Mem) (r : Rho) : Ctr l yX11_from (wWs yX11_from cX11_from 4 (some .int)) rm_CT_from rm_CT_from.cells rm_CT_from.slots G [.ref this, .int a0] M r ((f_CT_from N this a0 M).map (fun z => (z.1.elim (fun v => .inl (some (.int v))) .inr, z.2, r))) := by
  refine Ctr.ofF (own := "CheekTown") (by decide +kernel) hfl rfl (Nat.le_of_ble_eq_true rfl) (fun p e s m args below meth c E hno hr hnm hw ls hl => ?_)
  obtain ⟨hx, hb, hts, hown, hml, hTT, -⟩ := id E
  have hl : lv_has ls 4 [(0, .ref this), (1, .int a0)] := hl
  obtain ⟨H, hH⟩ : ∃ H, H = s.heap := ⟨_, rfl⟩
  obtain ⟨locs, hlo⟩ : ∃ L : List Loc, L = [] := ⟨_, rfl⟩
  rw [← hH, ← hlo]
  rw [← hlo] at hw
  replace hw : w_W G M r s H locs := by rw [hH]; exact hw
  have w23 : ∀ (n : Nat) (x2 : Int32) (x3 : Int32) (M : Mem) (H : Heap) (locs : List Loc) (ls : Array Slot), w_W G M r s H locs → lv_has ls 4 [(0, .ref this), (1, .int a0), (2, .int x2), (3, .int x3)] → W p l e rm_CT_from s m args below meth c H locs 0 0 (PQ G below args s rm_CT_from.cells rm_CT_from.slots (fun z => (z.1.elim (fun v => .inl (some (.int v))) .inr, z.2, r)) (f_CT_from_23 N this a0 n x2 x3 M)) (F0 m 23 ls []) := by
    intro n
    induction n with
    | zero => intros; exact W_none
    | succ n ih =>
      intro x2 x3 M H locs ls hw hl
      rw [f_CT_from_23]
      refine lv_iload_n hx hb dX11_from_23 rfl (lv_at hl 3 rfl) ?_
      refine lv_iload_n hx hb dX11_from_24 rfl (lv_at hl 2 rfl) ?_
      refine cx_icmp_ge (tgt := 46) E dX11_from_25 (by decide) (fun _ => ?_) (fun _ => ?_)
      · refine lv_iload_n hx hb dX11_from_46 rfl (lv_at hl 1 rfl) ?_
        refine cx_if_eq (tgt := 58) E dX11_from_47 (by decide) (fun _ => ?_) (fun _ => ?_)
        · refine lv_aload_n hx hb dX11_from_58 rfl (lv_at hl 0 rfl) ?_
          refine lv_iload_n hx hb dX11_from_59 rfl (lv_at hl 2 rfl) ?_
          refine W_bind fun _ hck => ?_
          refine W_bind fun z2 hz => ?_
          refine w_after (cells1 := 0) (slots1 := 0) (w_runV E kV_CT_275 kc_X11_likelyLands (t_CT_likelyLands l hfl G N this x2 M r ((fun z => (.inl (some (.int z)), M, r)) z2) (by rw [hz]; rfl)) ⟨Nat.le_of_ble_eq_true rfl, Nat.le_of_ble_eq_true rfl⟩ hw (w_recv E hw (by decide) ⟨_, _, rfl⟩ (ck_ok hck)) rfl hl.1 rfl (Nat.le_of_ble_eq_true rfl) dX11_from_60 ⟨Nat.le_of_ble_eq_true rfl, Nat.le_of_ble_eq_true rfl⟩) hw rfl (Nat.le_of_ble_eq_true rfl) (Nat.le_of_ble_eq_true rfl) (fun H locs hw => ?_)
          refine W.eq (g2 := F0 m 63 ls [.int z2]) rfl ?_
          have hw : w_W G M r s H locs := hw
          exact p_iret E hw hr (Nat.le_of_ble_eq_true rfl) (Nat.le_of_ble_eq_true rfl) rfl dX11_from_63
        · refine lv_aload_n hx hb dX11_from_50 rfl (lv_at hl 0 rfl) ?_
          refine lv_iload_n hx hb dX11_from_51 rfl (lv_at hl 2 rfl) ?_
          refine W_bind fun _ hck => ?_
          refine W_bind fun z3 hz => ?_
          refine w_after (cells1 := 0) (slots1 := 0) (w_runV E kV_CT_272 kc_X11_likeliestLand (t_CT_likeliestLand l hfl G N this x2 M r ((fun z => (.inl (some (.int z)), M, r)) z3) (by rw [hz]; rfl)) ⟨Nat.le_of_ble_eq_true rfl, Nat.le_of_ble_eq_true rfl⟩ hw (w_recv E hw (by decide) ⟨_, _, rfl⟩ (ck_ok hck)) rfl hl.1 rfl (Nat.le_of_ble_eq_true rfl) dX11_from_52 ⟨Nat.le_of_ble_eq_true rfl, Nat.le_of_ble_eq_true rfl⟩) hw rfl (Nat.le_of_ble_eq_true rfl) (Nat.le_of_ble_eq_true rfl) (fun H locs hw => ?_)
          refine W.eq (g2 := F0 m 55 ls [.int z3]) rfl ?_
          have hw : w_W G M r s H locs := hw
          refine lv_goto (tgt := 63) hx hb dX11_from_55 (by decide) ?_
          exact p_iret E hw hr (Nat.le_of_ble_eq_true rfl) (Nat.le_of_ble_eq_true rfl) rfl dX11_from_63
      · refine lv_aload_n hx hb dX11_from_28 rfl (lv_at hl 0 rfl) ?_
        refine gx_getR E hw kF_CT_9_10 (by decide) dX11_from_29 (fun v4 _ => ?_)
        refine lv_iload_n hx hb dX11_from_32 rfl (lv_at hl 3 rfl) ?_
        refine gx_iald E hw dX11_from_33 (fun v5 _ => ?_)
        refine lv_iconst (v := 0) hx hb dX11_from_34 (by decide) ?_
        refine lv_bipush (v := 31) hx hb dX11_from_35 (by decide) ?_
        refine W_bind fun z6 hz => ?_
        rcases z6 with ⟨v7 | e9, Mz⟩
        · refine W_sxl ?_
          refine w_after (cells1 := 0) (slots1 := 0) (w_runS E kS_CT_227 kc_X11_needNumber (t0_CT_needNumber l hfl G v5 0 31 M r (.inl none, Mz, r) (needNumber0 hz)) ⟨Nat.le_of_ble_eq_true rfl, Nat.le_of_ble_eq_true rfl⟩ hw rfl hl.1 rfl (Nat.le_of_ble_eq_true rfl) dX11_from_37 ⟨Nat.le_of_ble_eq_true rfl, Nat.le_of_ble_eq_true rfl⟩) hw rfl (Nat.le_of_ble_eq_true rfl) (Nat.le_of_ble_eq_true rfl) (fun H locs hw => ?_)
          refine W.eq (g2 := F0 m 40 ls []) rfl ?_
          have hw : w_W G Mz r s H locs := hw
          refine lv_iinc (v := x3 + 1) (lv' := [(3, .int (x3 + 1)), (0, .ref this), (1, .int a0), (2, .int x2)]) hx hb dX11_from_40 hl (k := 3) rfl rfl (by decide) rfl (fun ls hl => ?_)
          refine lv_goto (tgt := 23) hx hb dX11_from_43 (by decide) ?_
          exact ih x2 (x3 + 1) Mz _ _ _ hw (lv_sub hl [1, 2, 3, 0] rfl)
        · refine W_sxr ?_
          refine w_afterX (cells1 := 1) (slots1 := 6) (w_runS E kS_CT_227 kc_X11_needNumber (t_CT_needNumber l hfl G v5 0 31 M r ((.inr e9, Mz, r)) (by rw [hz]; rfl)) ⟨Nat.le_of_ble_eq_true rfl, Nat.le_of_ble_eq_true rfl⟩ hw rfl hl.1 rfl (Nat.le_of_ble_eq_true rfl) dX11_from_37 ⟨Nat.le_of_ble_eq_true rfl, Nat.le_of_ble_eq_true rfl⟩) hw (Nat.le_of_ble_eq_true rfl) (Nat.le_of_ble_eq_true rfl) (fun v H locs h9 => nomatch h9) (fun E9 H locs q ce h9 hw hce hcv hcl => by cases h9; exact w_out E hno hw hce hcv hcl (Nat.le_of_ble_eq_true rfl) (Nat.le_of_ble_eq_true rfl) rfl)
  unfold f_CT_from
  refine lv_aload_n hx hb dX11_from_0 rfl (lv_at hl 0 rfl) ?_
  refine W_bind fun _ hck => ?_
  refine W_bind fun z1 hz => ?_
  refine w_after (cells1 := 0) (slots1 := 0) (w_runV E kV_CT_55 kc_X11_useTapeUp (t_CT_useTapeUp l hfl G this M r ((fun z => (.inl (some (.int z.1)), z.2, r)) z1) (by rw [hz]; rfl)) ⟨Nat.le_of_ble_eq_true rfl, Nat.le_of_ble_eq_true rfl⟩ hw (w_recv E hw (by decide) ⟨_, _, rfl⟩ (ck_ok hck)) rfl hl.1 rfl (Nat.le_of_ble_eq_true rfl) dX11_from_1 ⟨Nat.le_of_ble_eq_true rfl, Nat.le_of_ble_eq_true rfl⟩) hw rfl (Nat.le_of_ble_eq_true rfl) (Nat.le_of_ble_eq_true rfl) (fun H locs hw => ?_)
  refine W.eq (g2 := F0 m 4 ls [.int z1.1]) rfl ?_
  have hw : w_W G z1.2 r s H locs := hw
  refine lv_istore_n (lv' := [(2, .int z1.1), (0, .ref this), (1, .int a0)]) hx hb dX11_from_4 rfl hl (by decide) rfl (fun ls hl => ?_)
  refine lv_iload_n hx hb dX11_from_5 rfl (lv_at hl 0 rfl) ?_
  refine lv_iconst (v := 4) hx hb dX11_from_6 (by decide) ?_
  refine cx_icmp_le (tgt := 21) E dX11_from_7 (by decide) (fun _ => ?_) (fun _ => ?_)
  · refine lv_iconst (v := 0) hx hb dX11_from_21 (by decide) ?_
    refine lv_istore_n (lv' := [(3, .int 0), (2, .int z1.1), (0, .ref this), (1, .int a0)]) hx hb dX11_from_22 rfl hl (by decide) rfl (fun ls hl => ?_)
    exact w23  N z1.1 0 z1.2 _ _ _ hw (lv_sub hl [2, 3, 1, 0] rfl)
  · exact gx_throwW E hno hw kX_CT_270 hl.1 dX11_from_10 dX11_from_13 dX11_from_14 dX11_from_17 dX11_from_20 (Nat.le_of_ble_eq_true rfl) (Nat.le_of_ble_eq_true rfl) (Nat.le_of_ble_eq_true rfl) (Nat.le_of_ble_eq_true rfl) (Nat.le_of_ble_eq_true rfl) (Nat.le_of_ble_eq_true rfl) rfl
set_option maxHeartbeats 4000000 in
set_option maxRecDepth 100000 in
theorem t_CT_isContent (l : Launch) (hfl : l.stackTraces = false) (G : wG) (a0 : Int32) (a1 : Int32) (a2 : Int32) (M : Mem) (r : Rho) : Ctr l yX11_isContent (wWs yX11_isContent cX11_isContent 5 (some .boolean)) rm_CT_isContent rm_CT_isContent.cells rm_CT_isContent.slots G [.int a0, .int a1, .int a2] M r ((f_CT_isContent a0 a1 a2).map (fun z => (.inl (some (.int z)), M, r))) := by
  refine Ctr.ofF (own := "CheekTown") (by decide +kernel) hfl rfl (Nat.le_of_ble_eq_true rfl) (fun p e s m args below meth c E hno hr hnm hw ls hl => ?_)
  obtain ⟨hx, hb, hts, hown, hml, hTT, -⟩ := id E
  have hl : lv_has ls 5 [(0, .int a0), (1, .int a1), (2, .int a2)] := hl
  obtain ⟨H, hH⟩ : ∃ H, H = s.heap := ⟨_, rfl⟩
  obtain ⟨locs, hlo⟩ : ∃ L : List Loc, L = [] := ⟨_, rfl⟩
  rw [← hH, ← hlo]
  rw [← hlo] at hw
  replace hw : w_W G M r s H locs := by rw [hH]; exact hw
  have w40 : ∀ (x3 : Int32) (y0 : Int32) (y1 : Int32) (H : Heap) (locs : List Loc) (ls : Array Slot), w_W G M r s H locs → lv_has ls 5 [(3, .int x3)] → W p l e rm_CT_isContent s m args below meth c H locs 0 0 (PQ G below args s rm_CT_isContent.cells rm_CT_isContent.slots (fun z => (.inl (some (.int z)), M, r)) (f_CT_isContent_40 a0 a1 a2 x3 y0 y1)) (F0 m 40 ls [.int y1, .int y0]) := by
    intro x3 y0 y1 H locs ls hw hl
    unfold f_CT_isContent_40
    refine lv_iadd hx hb dX11_isContent_40 ?_
    refine lv_istore (lv' := [(4, .int (y0 + y1)), (3, .int x3)]) hx hb dX11_isContent_41 hl (by decide) rfl (fun ls hl => ?_)
    refine lv_iload_n hx hb dX11_isContent_43 rfl (lv_at hl 1 rfl) ?_
    refine lv_iload hx hb dX11_isContent_44 (lv_at hl 0 rfl) ?_
    refine cx_icmp_gt (tgt := 53) E dX11_isContent_46 (by decide) (fun _ => ?_) (fun _ => ?_)
    · refine lv_iconst (v := 0) hx hb dX11_isContent_53 (by decide) ?_
      exact p_zret E hw hr (by decide) (Nat.le_of_ble_eq_true rfl) (Nat.le_of_ble_eq_true rfl) rfl dX11_isContent_54
    · refine lv_iconst (v := 1) hx hb dX11_isContent_49 (by decide) ?_
      refine lv_goto (tgt := 54) hx hb dX11_isContent_50 (by decide) ?_
      exact p_zret E hw hr (by decide) (Nat.le_of_ble_eq_true rfl) (Nat.le_of_ble_eq_true rfl) rfl dX11_isContent_54
  have w31 : ∀ (x3 : Int32) (y0 : Int32) (H : Heap) (locs : List Loc) (ls : Array Slot), w_W G M r s H locs → lv_has ls 5 [(1, .int a1), (3, .int x3)] → W p l e rm_CT_isContent s m args below meth c H locs 0 0 (PQ G below args s rm_CT_isContent.cells rm_CT_isContent.slots (fun z => (.inl (some (.int z)), M, r)) (f_CT_isContent_31 a0 a1 a2 x3 y0)) (F0 m 31 ls [.int y0]) := by
    intro x3 y0 H locs ls hw hl
    unfold f_CT_isContent_31
    refine lv_iload_n hx hb dX11_isContent_31 rfl (lv_at hl 0 rfl) ?_
    refine cx_if_eq (tgt := 39) E dX11_isContent_32 (by decide) (fun _ => ?_) (fun _ => ?_)
    · refine lv_iconst (v := 1) hx hb dX11_isContent_39 (by decide) ?_
      exact w40  x3 y0 1 _ _ _ hw (lv_sub hl [1] rfl)
    · refine lv_iconst (v := 0) hx hb dX11_isContent_35 (by decide) ?_
      refine lv_goto (tgt := 40) hx hb dX11_isContent_36 (by decide) ?_
      exact w40  x3 y0 0 _ _ _ hw (lv_sub hl [1] rfl)
  have w19 : ∀ (y0 : Int32) (y1 : Int32) (H : Heap) (locs : List Loc) (ls : Array Slot), w_W G M r s H locs → lv_has ls 5 [(0, .int a0), (1, .int a1), (2, .int a2)] → W p l e rm_CT_isContent s m args below meth c H locs 0 0 (PQ G below args s rm_CT_isContent.cells rm_CT_isContent.slots (fun z => (.inl (some (.int z)), M, r)) (f_CT_isContent_19 a0 a1 a2 y0 y1)) (F0 m 19 ls [.int y1, .int y0]) := by
    intro y0 y1 H locs ls hw hl
    unfold f_CT_isContent_19
    refine lv_iadd hx hb dX11_isContent_19 ?_
    refine lv_istore_n (lv' := [(3, .int (y0 + y1)), (0, .int a0), (1, .int a1), (2, .int a2)]) hx hb dX11_isContent_20 rfl hl (by decide) rfl (fun ls hl => ?_)
    refine lv_iload_n hx hb dX11_isContent_21 rfl (lv_at hl 2 rfl) ?_
    refine lv_iload_n hx hb dX11_isContent_22 rfl (lv_at hl 3 rfl) ?_
    refine cx_icmp_ne (tgt := 30) E dX11_isContent_23 (by decide) (fun _ => ?_) (fun _ => ?_)
    · refine lv_iload_n hx hb dX11_isContent_30 rfl (lv_at hl 1 rfl) ?_
      exact w31  (y0 + y1) a0 _ _ _ hw (lv_sub hl [2, 0] rfl)
    · refine lv_iconst (v := 0) hx hb dX11_isContent_26 (by decide) ?_
      refine lv_goto (tgt := 31) hx hb dX11_isContent_27 (by decide) ?_
      exact w31  (y0 + y1) 0 _ _ _ hw (lv_sub hl [2, 0] rfl)
  have w10 : ∀ (y0 : Int32) (H : Heap) (locs : List Loc) (ls : Array Slot), w_W G M r s H locs → lv_has ls 5 [(0, .int a0), (1, .int a1), (2, .int a2)] → W p l e rm_CT_isContent s m args below meth c H locs 0 0 (PQ G below args s rm_CT_isContent.cells rm_CT_isContent.slots (fun z => (.inl (some (.int z)), M, r)) (f_CT_isContent_10 a0 a1 a2 y0)) (F0 m 10 ls [.int y0]) := by
    intro y0 H locs ls hw hl
    unfold f_CT_isContent_10
    refine lv_iload_n hx hb dX11_isContent_10 rfl (lv_at hl 1 rfl) ?_
    refine cx_if_eq (tgt := 18) E dX11_isContent_11 (by decide) (fun _ => ?_) (fun _ => ?_)
    · refine lv_iconst (v := 0) hx hb dX11_isContent_18 (by decide) ?_
      exact w19  y0 0 _ _ _ hw (lv_sub hl [0, 1, 2] rfl)
    · refine lv_iconst (v := 1) hx hb dX11_isContent_14 (by decide) ?_
      refine lv_goto (tgt := 19) hx hb dX11_isContent_15 (by decide) ?_
      exact w19  y0 1 _ _ _ hw (lv_sub hl [0, 1, 2] rfl)
  unfold f_CT_isContent
  refine lv_iload_n hx hb dX11_isContent_0 rfl (lv_at hl 1 rfl) ?_
  refine lv_iload_n hx hb dX11_isContent_1 rfl (lv_at hl 2 rfl) ?_
  refine cx_icmp_eq (tgt := 9) E dX11_isContent_2 (by decide) (fun _ => ?_) (fun _ => ?_)
  · refine lv_iload_n hx hb dX11_isContent_9 rfl (lv_at hl 0 rfl) ?_
    exact w10  a0 _ _ _ hw (lv_sub hl [0, 1, 2] rfl)
  · refine lv_iconst (v := 0) hx hb dX11_isContent_5 (by decide) ?_
    refine lv_goto (tgt := 10) hx hb dX11_isContent_6 (by decide) ?_
    exact w10  0 _ _ _ hw (lv_sub hl [0, 1, 2] rfl)
set_option maxHeartbeats 4000000 in
set_option maxRecDepth 100000 in
theorem t_CT_rests (l : Launch) (hfl : l.stackTraces = false) (G : wG) (N : Nat) (this : Nat) (a0 : Int32) (a1 : Int32) (M : Mem) (r : Rho) : Ctr l yX11_rests (wWs yX11_rests cX11_rests 8 (some .int)) rm_CT_rests rm_CT_rests.cells rm_CT_rests.slots G [.ref this, .int a0, .int a1] M r ((f_CT_rests N this a0 a1 M).map (fun z => (z.1.elim (fun v => .inl (some (.int v))) .inr, z.2, r))) := by
  refine Ctr.ofF (own := "CheekTown") (by decide +kernel) hfl rfl (Nat.le_of_ble_eq_true rfl) (fun p e s m args below meth c E hno hr hnm hw ls hl => ?_)
  obtain ⟨hx, hb, hts, hown, hml, hTT, -⟩ := id E
  have hl : lv_has ls 8 [(0, .ref this), (1, .int a0), (2, .int a1)] := hl
  obtain ⟨H, hH⟩ : ∃ H, H = s.heap := ⟨_, rfl⟩
  obtain ⟨locs, hlo⟩ : ∃ L : List Loc, L = [] := ⟨_, rfl⟩
  rw [← hH, ← hlo]
  rw [← hlo] at hw
  replace hw : w_W G M r s H locs := by rw [hH]; exact hw
  have w54 : ∀ (k22 : Int32 → Int32 → Int32 → Mem → Option ((Int32 ⊕ String) × Mem)) (hk22 : ∀ (x3 : Int32) (x4 : Int32) (x5 : Int32) (M : Mem) (H : Heap) (locs : List Loc) (ls : Array Slot), w_W G M r s H locs → lv_has ls 8 [(3, .int x3), (4, .int x4), (5, .int x5)] → W p l e rm_CT_rests s m args below meth c H locs 3 18 (PQ G below args s rm_CT_rests.cells rm_CT_rests.slots (fun z => (z.1.elim (fun v => .inl (some (.int v))) .inr, z.2, r)) (k22 x3 x4 x5 M)) (F0 m 22 ls [])) (x3 : Int32) (x4 : Int32) (x5 : Int32) (x6 : Int32) (y0 : Int32) (M : Mem) (H : Heap) (locs : List Loc) (ls : Array Slot), w_W G M r s H locs → lv_has ls 8 [(3, .int x3), (4, .int x4), (5, .int x5), (6, .int x6)] → W p l e rm_CT_rests s m args below meth c H locs 3 18 (PQ G below args s rm_CT_rests.cells rm_CT_rests.slots (fun z => (z.1.elim (fun v => .inl (some (.int v))) .inr, z.2, r)) (f_CT_rests_54 N this a0 a1 k22 x3 x4 x5 x6 y0 M)) (F0 m 54 ls [.int y0]) := by
    intro k22 hk22 x3 x4 x5 x6 y0 M H locs ls hw hl
    unfold f_CT_rests_54
    refine lv_istore (lv' := [(7, .int y0), (3, .int x3), (4, .int x4), (5, .int x5), (6, .int x6)]) hx hb dX11_rests_54 hl (by decide) rfl (fun ls hl => ?_)
    refine lv_iload_n hx hb dX11_rests_56 rfl (lv_at hl 1 rfl) ?_
    refine lv_iload hx hb dX11_rests_57 (lv_at hl 4 rfl) ?_
    refine lv_iload hx hb dX11_rests_59 (lv_at hl 0 rfl) ?_
    refine W_bind fun z5 hz => ?_
    refine w_after (cells1 := 3) (slots1 := 18) (w_runS E kS_CT_297 kc_X11_isContent (t_CT_isContent l hfl G x3 x6 y0 M r ((fun z => (.inl (some (.int z)), M, r)) z5) (by rw [hz]; rfl)) ⟨Nat.le_of_ble_eq_true rfl, Nat.le_of_ble_eq_true rfl⟩ hw rfl hl.1 rfl (Nat.le_of_ble_eq_true rfl) dX11_rests_61 ⟨Nat.le_of_ble_eq_true rfl, Nat.le_of_ble_eq_true rfl⟩) hw rfl (Nat.le_of_ble_eq_true rfl) (Nat.le_of_ble_eq_true rfl) (fun H locs hw => ?_)
    refine W.eq (g2 := F0 m 64 ls [.int z5]) rfl ?_
    have hw : w_W G M r s H locs := hw
    refine cx_if_eq (tgt := 87) E dX11_rests_64 (by decide) (fun _ => ?_) (fun _ => ?_)
    · refine lv_iinc (v := x5 + 1) (lv' := [(5, .int (x5 + 1)), (7, .int y0), (3, .int x3), (4, .int x4), (6, .int x6)]) hx hb dX11_rests_87 hl (k := 3) rfl rfl (by decide) rfl (fun ls hl => ?_)
      refine lv_goto (tgt := 22) hx hb dX11_rests_90 (by decide) ?_
      exact hk22 x3 x4 (x5 + 1) M _ _ _ hw (lv_sub hl [2, 3, 0] rfl)
    · refine lv_iload_n hx hb dX11_rests_67 rfl (lv_at hl 1 rfl) ?_
      refine lv_iload hx hb dX11_rests_68 (lv_at hl 0 rfl) ?_
      refine lv_iload hx hb dX11_rests_70 (lv_at hl 4 rfl) ?_
      refine W_bind fun z6 hz => ?_
      refine w_after (cells1 := 3) (slots1 := 18) (w_runS E kS_CT_297 kc_X11_isContent (t_CT_isContent l hfl G x3 y0 x6 M r ((fun z => (.inl (some (.int z)), M, r)) z6) (by rw [hz]; rfl)) ⟨Nat.le_of_ble_eq_true rfl, Nat.le_of_ble_eq_true rfl⟩ hw rfl hl.1 rfl (Nat.le_of_ble_eq_true rfl) dX11_rests_72 ⟨Nat.le_of_ble_eq_true rfl, Nat.le_of_ble_eq_true rfl⟩) hw rfl (Nat.le_of_ble_eq_true rfl) (Nat.le_of_ble_eq_true rfl) (fun H locs hw => ?_)
      refine W.eq (g2 := F0 m 75 ls [.int z6]) rfl ?_
      have hw : w_W G M r s H locs := hw
      refine cx_if_eq (tgt := 87) E dX11_rests_75 (by decide) (fun _ => ?_) (fun _ => ?_)
      · refine lv_iinc (v := x5 + 1) (lv' := [(5, .int (x5 + 1)), (7, .int y0), (3, .int x3), (4, .int x4), (6, .int x6)]) hx hb dX11_rests_87 hl (k := 3) rfl rfl (by decide) rfl (fun ls hl => ?_)
        refine lv_goto (tgt := 22) hx hb dX11_rests_90 (by decide) ?_
        exact hk22 x3 x4 (x5 + 1) M _ _ _ hw (lv_sub hl [2, 3, 0] rfl)
      · refine lv_iload hx hb dX11_rests_78 (lv_at hl 2 rfl) ?_
        refine lv_iconst (v := 1) hx hb dX11_rests_80 (by decide) ?_
        refine lv_iload hx hb dX11_rests_81 (lv_at hl 3 rfl) ?_
        refine lv_ishl hx hb dX11_rests_83 ?_
        refine lv_ior hx hb dX11_rests_84 ?_
        refine lv_istore (lv' := [(4, .int (x4 ||| (1 <<< (x5 &&& 31)))), (7, .int y0), (3, .int x3), (5, .int x5), (6, .int x6)]) hx hb dX11_rests_85 hl (by decide) rfl (fun ls hl => ?_)
        refine lv_iinc (v := x5 + 1) (lv' := [(5, .int (x5 + 1)), (4, .int (x4 ||| (1 <<< (x5 &&& 31)))), (7, .int y0), (3, .int x3), (6, .int x6)]) hx hb dX11_rests_87 hl (k := 3) rfl rfl (by decide) rfl (fun ls hl => ?_)
        refine lv_goto (tgt := 22) hx hb dX11_rests_90 (by decide) ?_
        exact hk22 x3 (x4 ||| (1 <<< (x5 &&& 31))) (x5 + 1) M _ _ _ hw (lv_sub hl [3, 1, 0] rfl)
  have w40 : ∀ (k22 : Int32 → Int32 → Int32 → Mem → Option ((Int32 ⊕ String) × Mem)) (hk22 : ∀ (x3 : Int32) (x4 : Int32) (x5 : Int32) (M : Mem) (H : Heap) (locs : List Loc) (ls : Array Slot), w_W G M r s H locs → lv_has ls 8 [(3, .int x3), (4, .int x4), (5, .int x5)] → W p l e rm_CT_rests s m args below meth c H locs 3 18 (PQ G below args s rm_CT_rests.cells rm_CT_rests.slots (fun z => (z.1.elim (fun v => .inl (some (.int v))) .inr, z.2, r)) (k22 x3 x4 x5 M)) (F0 m 22 ls [])) (x3 : Int32) (x4 : Int32) (x5 : Int32) (y0 : Int32) (M : Mem) (H : Heap) (locs : List Loc) (ls : Array Slot), w_W G M r s H locs → lv_has ls 8 [(3, .int x3), (4, .int x4), (5, .int x5)] → W p l e rm_CT_rests s m args below meth c H locs 3 18 (PQ G below args s rm_CT_rests.cells rm_CT_rests.slots (fun z => (z.1.elim (fun v => .inl (some (.int v))) .inr, z.2, r)) (f_CT_rests_40 N this a0 a1 k22 x3 x4 x5 y0 M)) (F0 m 40 ls [.int y0]) := by
    intro k22 hk22 x3 x4 x5 y0 M H locs ls hw hl
    unfold f_CT_rests_40
    refine lv_istore (lv' := [(6, .int y0), (3, .int x3), (4, .int x4), (5, .int x5)]) hx hb dX11_rests_40 hl (by decide) rfl (fun ls hl => ?_)
    refine lv_iload hx hb dX11_rests_42 (lv_at hl 3 rfl) ?_
    refine lv_iconst (v := 2) hx hb dX11_rests_44 (by decide) ?_
    refine lv_iand hx hb dX11_rests_45 ?_
    refine cx_if_eq (tgt := 53) E dX11_rests_46 (by decide) (fun _ => ?_) (fun _ => ?_)
    · refine lv_iconst (v := 0) hx hb dX11_rests_53 (by decide) ?_
      exact w54 k22 hk22 x3 x4 x5 y0 0 M _ _ _ hw (lv_sub hl [1, 2, 3, 0] rfl)
    · refine lv_iconst (v := 1) hx hb dX11_rests_49 (by decide) ?_
      refine lv_goto (tgt := 54) hx hb dX11_rests_50 (by decide) ?_
      exact w54 k22 hk22 x3 x4 x5 y0 1 M _ _ _ hw (lv_sub hl [1, 2, 3, 0] rfl)
  have w22 : ∀ (n : Nat) (x3 : Int32) (x4 : Int32) (x5 : Int32) (M : Mem) (H : Heap) (locs : List Loc) (ls : Array Slot), w_W G M r s H locs → lv_has ls 8 [(3, .int x3), (4, .int x4), (5, .int x5)] → W p l e rm_CT_rests s m args below meth c H locs 3 18 (PQ G below args s rm_CT_rests.cells rm_CT_rests.slots (fun z => (z.1.elim (fun v => .inl (some (.int v))) .inr, z.2, r)) (f_CT_rests_22 N this a0 a1 n x3 x4 x5 M)) (F0 m 22 ls []) := by
    intro n
    induction n with
    | zero => intros; exact W_none
    | succ n ih =>
      intro x3 x4 x5 M H locs ls hw hl
      rw [f_CT_rests_22]
      refine lv_iload hx hb dX11_rests_22 (lv_at hl 2 rfl) ?_
      refine lv_iconst (v := 4) hx hb dX11_rests_24 (by decide) ?_
      refine cx_icmp_ge (tgt := 93) E dX11_rests_25 (by decide) (fun _ => ?_) (fun _ => ?_)
      · refine lv_iload hx hb dX11_rests_93 (lv_at hl 1 rfl) ?_
        exact p_iret E hw hr (Nat.le_of_ble_eq_true rfl) (Nat.le_of_ble_eq_true rfl) rfl dX11_rests_95
      · refine lv_iload hx hb dX11_rests_28 (lv_at hl 2 rfl) ?_
        refine lv_iconst (v := 1) hx hb dX11_rests_30 (by decide) ?_
        refine lv_iand hx hb dX11_rests_31 ?_
        refine cx_if_eq (tgt := 39) E dX11_rests_32 (by decide) (fun _ => ?_) (fun _ => ?_)
        · refine lv_iconst (v := 0) hx hb dX11_rests_39 (by decide) ?_
          exact w40 (f_CT_rests_22 N this a0 a1 n) ih x3 x4 x5 0 M _ _ _ hw (lv_sub hl [0, 1, 2] rfl)
        · refine lv_iconst (v := 1) hx hb dX11_rests_35 (by decide) ?_
          refine lv_goto (tgt := 40) hx hb dX11_rests_36 (by decide) ?_
          exact w40 (f_CT_rests_22 N this a0 a1 n) ih x3 x4 x5 1 M _ _ _ hw (lv_sub hl [0, 1, 2] rfl)
  unfold f_CT_rests
  refine lv_aload_n hx hb dX11_rests_0 rfl (lv_at hl 0 rfl) ?_
  refine lv_iload_n hx hb dX11_rests_1 rfl (lv_at hl 1 rfl) ?_
  refine lv_iload_n hx hb dX11_rests_2 rfl (lv_at hl 2 rfl) ?_
  refine W_bind fun _ hck => ?_
  refine W_bind fun z1 hz => ?_
  refine w_afterS (cells1 := 3) (slots1 := 18) (vv := (fun _ => none)) (w_runV E kV_CT_200 kc_X11_needTwo (t_CT_needTwo l hfl G this a0 a1 M r ((fun z => (z.1.elim (fun _ => .inl none) .inr, z.2, r)) z1) (by rw [hz]; rfl)) ⟨Nat.le_of_ble_eq_true rfl, Nat.le_of_ble_eq_true rfl⟩ hw (w_recv E hw (by decide) ⟨_, _, rfl⟩ (ck_ok hck)) rfl hl.1 rfl (Nat.le_of_ble_eq_true rfl) dX11_rests_3 ⟨Nat.le_of_ble_eq_true rfl, Nat.le_of_ble_eq_true rfl⟩) hw rfl (Nat.le_of_ble_eq_true rfl) (Nat.le_of_ble_eq_true rfl) (fun v2 H locs _ hw => ?_) (fun E9 H locs q ce _ hw hce hcv hcl => w_out E hno hw hce hcv hcl (Nat.le_of_ble_eq_true rfl) (Nat.le_of_ble_eq_true rfl) rfl)
  refine W.eq (g2 := F0 m 6 ls []) rfl ?_
  have hw : w_W G z1.2 r s H locs := hw
  refine lv_aload_n hx hb dX11_rests_6 rfl (lv_at hl 0 rfl) ?_
  refine gx_getR E hw kF_CT_20_10 (by decide) dX11_rests_7 (fun v3 _ => ?_)
  refine lv_iload_n hx hb dX11_rests_10 rfl (lv_at hl 1 rfl) ?_
  refine lv_iload_n hx hb dX11_rests_11 rfl (lv_at hl 2 rfl) ?_
  refine W_bind fun _ hck => ?_
  refine W_bind fun z4 hz => ?_
  refine w_after (cells1 := 3) (slots1 := 18) (w_runV E kV_CT_294 kc_X8_costOfOwns (t_Town_costOfOwns l hfl G v3 a0 a1 z1.2 r ((fun z => (.inl (some (.int z)), z1.2, r)) z4) (by rw [hz]; rfl)) ⟨Nat.le_of_ble_eq_true rfl, Nat.le_of_ble_eq_true rfl⟩ hw (w_recv E hw (by decide) ⟨_, _, rfl⟩ (ck_ok hck)) rfl hl.1 rfl (Nat.le_of_ble_eq_true rfl) dX11_rests_12 ⟨Nat.le_of_ble_eq_true rfl, Nat.le_of_ble_eq_true rfl⟩) hw rfl (Nat.le_of_ble_eq_true rfl) (Nat.le_of_ble_eq_true rfl) (fun H locs hw => ?_)
  refine W.eq (g2 := F0 m 15 ls [.int z4]) rfl ?_
  have hw : w_W G z1.2 r s H locs := hw
  refine lv_istore_n (lv' := [(3, .int z4), (0, .ref this), (1, .int a0), (2, .int a1)]) hx hb dX11_rests_15 rfl hl (by decide) rfl (fun ls hl => ?_)
  refine lv_iconst (v := 0) hx hb dX11_rests_16 (by decide) ?_
  refine lv_istore (lv' := [(4, .int 0), (3, .int z4), (0, .ref this), (1, .int a0), (2, .int a1)]) hx hb dX11_rests_17 hl (by decide) rfl (fun ls hl => ?_)
  refine lv_iconst (v := 0) hx hb dX11_rests_19 (by decide) ?_
  refine lv_istore (lv' := [(5, .int 0), (4, .int 0), (3, .int z4), (0, .ref this), (1, .int a0), (2, .int a1)]) hx hb dX11_rests_20 hl (by decide) rfl (fun ls hl => ?_)
  exact w22  N z4 0 0 z1.2 _ _ _ hw (lv_sub hl [2, 1, 0] rfl)
set_option maxHeartbeats 4000000 in
set_option maxRecDepth 100000 in
theorem t_CT_sake (l : Launch) (hfl : l.stackTraces = false) (G : wG) (this : Nat) (a0 : Int32) (a1 : Int32) (a2 : Int32) (M : Mem) (r : Rho) : Ctr l yX11_sake (wWs yX11_sake cX11_sake 7 (some .int)) rm_CT_sake rm_CT_sake.cells rm_CT_sake.slots G [.ref this, .int a0, .int a1, .int a2] M r ((f_CT_sake this a0 a1 a2 M).map (fun z => (z.1.elim (fun v => .inl (some (.int v))) .inr, z.2, r))) := by
  refine Ctr.ofF (own := "CheekTown") (by decide +kernel) hfl rfl (Nat.le_of_ble_eq_true rfl) (fun p e s m args below meth c E hno hr hnm hw ls hl => ?_)
  obtain ⟨hx, hb, hts, hown, hml, hTT, -⟩ := id E
  have hl : lv_has ls 7 [(0, .ref this), (1, .int a0), (2, .int a1), (3, .int a2)] := hl
  obtain ⟨H, hH⟩ : ∃ H, H = s.heap := ⟨_, rfl⟩
  obtain ⟨locs, hlo⟩ : ∃ L : List Loc, L = [] := ⟨_, rfl⟩
  rw [← hH, ← hlo]
  rw [← hlo] at hw
  replace hw : w_W G M r s H locs := by rw [hH]; exact hw
  unfold f_CT_sake
  refine lv_aload_n hx hb dX11_sake_0 rfl (lv_at hl 0 rfl) ?_
  refine lv_iload_n hx hb dX11_sake_1 rfl (lv_at hl 1 rfl) ?_
  refine lv_iload_n hx hb dX11_sake_2 rfl (lv_at hl 2 rfl) ?_
  refine W_bind fun _ hck => ?_
  refine W_bind fun z1 hz => ?_
  refine w_afterS (cells1 := 3) (slots1 := 18) (vv := (fun _ => none)) (w_runV E kV_CT_200 kc_X11_needTwo (t_CT_needTwo l hfl G this a0 a1 M r ((fun z => (z.1.elim (fun _ => .inl none) .inr, z.2, r)) z1) (by rw [hz]; rfl)) ⟨Nat.le_of_ble_eq_true rfl, Nat.le_of_ble_eq_true rfl⟩ hw (w_recv E hw (by decide) ⟨_, _, rfl⟩ (ck_ok hck)) rfl hl.1 rfl (Nat.le_of_ble_eq_true rfl) dX11_sake_3 ⟨Nat.le_of_ble_eq_true rfl, Nat.le_of_ble_eq_true rfl⟩) hw rfl (Nat.le_of_ble_eq_true rfl) (Nat.le_of_ble_eq_true rfl) (fun v2 H locs _ hw => ?_) (fun E9 H locs q ce _ hw hce hcv hcl => w_out E hno hw hce hcv hcl (Nat.le_of_ble_eq_true rfl) (Nat.le_of_ble_eq_true rfl) rfl)
  refine W.eq (g2 := F0 m 6 ls []) rfl ?_
  have hw : w_W G z1.2 r s H locs := hw
  refine lv_aload_n hx hb dX11_sake_6 rfl (lv_at hl 0 rfl) ?_
  refine gx_getR E hw kF_CT_20_10 (by decide) dX11_sake_7 (fun v3 _ => ?_)
  refine gx_getR E hw kF_CT_172_7 (by decide) dX11_sake_10 (fun v4 _ => ?_)
  refine lv_iload_n hx hb dX11_sake_13 rfl (lv_at hl 1 rfl) ?_
  refine gx_aald E hw (by decide) dX11_sake_14 (fun v5 _ => ?_)
  refine gx_getI E hw kF_CT_181_5 (by decide) dX11_sake_15 (fun v6 _ => ?_)
  refine lv_istore (lv' := [(4, .int v6), (0, .ref this), (1, .int a0), (2, .int a1), (3, .int a2)]) hx hb dX11_sake_18 hl (by decide) rfl (fun ls hl => ?_)
  refine lv_aload_n hx hb dX11_sake_20 rfl (lv_at hl 1 rfl) ?_
  refine gx_getR E hw kF_CT_20_10 (by decide) dX11_sake_21 (fun v7 _ => ?_)
  refine gx_getR E hw kF_CT_172_7 (by decide) dX11_sake_24 (fun v8 _ => ?_)
  refine lv_iload_n hx hb dX11_sake_27 rfl (lv_at hl 3 rfl) ?_
  refine gx_aald E hw (by decide) dX11_sake_28 (fun v9 _ => ?_)
  refine gx_getI E hw kF_CT_181_5 (by decide) dX11_sake_29 (fun v10 _ => ?_)
  refine lv_istore (lv' := [(5, .int v10), (4, .int v6), (0, .ref this), (1, .int a0), (2, .int a1), (3, .int a2)]) hx hb dX11_sake_32 hl (by decide) rfl (fun ls hl => ?_)
  refine lv_iload hx hb dX11_sake_34 (lv_at hl 1 rfl) ?_
  refine W_bind fun z11 hz => ?_
  refine w_after (cells1 := 3) (slots1 := 18) (w_runS E kS_CT_301 kc_X4_kindOf (t_Manners_kindOf l hfl G v6 z1.2 r ((fun z => (.inl (some (.int z)), z1.2, r)) z11) (by rw [hz]; rfl)) ⟨Nat.le_of_ble_eq_true rfl, Nat.le_of_ble_eq_true rfl⟩ hw rfl hl.1 rfl (Nat.le_of_ble_eq_true rfl) dX11_sake_36 ⟨Nat.le_of_ble_eq_true rfl, Nat.le_of_ble_eq_true rfl⟩) hw rfl (Nat.le_of_ble_eq_true rfl) (Nat.le_of_ble_eq_true rfl) (fun H locs hw => ?_)
  refine W.eq (g2 := F0 m 39 ls [.int z11]) rfl ?_
  have hw : w_W G z1.2 r s H locs := hw
  refine lv_iconst (v := 2) hx hb dX11_sake_39 (by decide) ?_
  refine cx_icmp_ne (tgt := 52) E dX11_sake_40 (by decide) (fun _ => ?_) (fun _ => ?_)
  · refine lv_iconst (v := (-1)) hx hb dX11_sake_52 (by decide) ?_
    exact p_iret E hw hr (Nat.le_of_ble_eq_true rfl) (Nat.le_of_ble_eq_true rfl) rfl dX11_sake_53
  · refine lv_iload hx hb dX11_sake_43 (lv_at hl 0 rfl) ?_
    refine W_bind fun z12 hz => ?_
    refine w_after (cells1 := 3) (slots1 := 18) (w_runS E kS_CT_301 kc_X4_kindOf (t_Manners_kindOf l hfl G v10 z1.2 r ((fun z => (.inl (some (.int z)), z1.2, r)) z12) (by rw [hz]; rfl)) ⟨Nat.le_of_ble_eq_true rfl, Nat.le_of_ble_eq_true rfl⟩ hw rfl hl.1 rfl (Nat.le_of_ble_eq_true rfl) dX11_sake_45 ⟨Nat.le_of_ble_eq_true rfl, Nat.le_of_ble_eq_true rfl⟩) hw rfl (Nat.le_of_ble_eq_true rfl) (Nat.le_of_ble_eq_true rfl) (fun H locs hw => ?_)
    refine W.eq (g2 := F0 m 48 ls [.int z12]) rfl ?_
    have hw : w_W G z1.2 r s H locs := hw
    refine lv_iconst (v := 2) hx hb dX11_sake_48 (by decide) ?_
    refine cx_icmp_eq (tgt := 54) E dX11_sake_49 (by decide) (fun _ => ?_) (fun _ => ?_)
    · refine lv_iload hx hb dX11_sake_54 (lv_at hl 1 rfl) ?_
      refine W_bind fun z13 hz => ?_
      refine w_after (cells1 := 3) (slots1 := 18) (w_runS E kS_CT_304 kc_X4_countOf (t_Manners_countOf l hfl G v6 z1.2 r ((fun z => (.inl (some (.int z)), z1.2, r)) z13) (by rw [hz]; rfl)) ⟨Nat.le_of_ble_eq_true rfl, Nat.le_of_ble_eq_true rfl⟩ hw rfl hl.1 rfl (Nat.le_of_ble_eq_true rfl) dX11_sake_56 ⟨Nat.le_of_ble_eq_true rfl, Nat.le_of_ble_eq_true rfl⟩) hw rfl (Nat.le_of_ble_eq_true rfl) (Nat.le_of_ble_eq_true rfl) (fun H locs hw => ?_)
      refine W.eq (g2 := F0 m 59 ls [.int z13]) rfl ?_
      have hw : w_W G z1.2 r s H locs := hw
      refine lv_iload hx hb dX11_sake_59 (lv_at hl 0 rfl) ?_
      refine W_bind fun z14 hz => ?_
      refine w_after (cells1 := 3) (slots1 := 18) (w_runS E kS_CT_304 kc_X4_countOf (t_Manners_countOf l hfl G v10 z1.2 r ((fun z => (.inl (some (.int z)), z1.2, r)) z14) (by rw [hz]; rfl)) ⟨Nat.le_of_ble_eq_true rfl, Nat.le_of_ble_eq_true rfl⟩ hw rfl hl.1 rfl (Nat.le_of_ble_eq_true rfl) dX11_sake_61 ⟨Nat.le_of_ble_eq_true rfl, Nat.le_of_ble_eq_true rfl⟩) hw rfl (Nat.le_of_ble_eq_true rfl) (Nat.le_of_ble_eq_true rfl) (fun H locs hw => ?_)
      refine W.eq (g2 := F0 m 64 ls [.int z14, .int z13]) rfl ?_
      have hw : w_W G z1.2 r s H locs := hw
      refine lv_isub hx hb dX11_sake_64 ?_
      refine W_bind fun z15 hz => ?_
      refine w_after (cells1 := 3) (slots1 := 18) (w_runS E kS_CT_307 kc_J9_abs_0f7a4 (t_Math_abs l hfl G (z13 - z14) z1.2 r ((fun z => (.inl (some (.int z)), z1.2, r)) z15) (by rw [hz]; rfl)) ⟨Nat.le_of_ble_eq_true rfl, Nat.le_of_ble_eq_true rfl⟩ hw rfl hl.1 rfl (Nat.le_of_ble_eq_true rfl) dX11_sake_65 ⟨Nat.le_of_ble_eq_true rfl, Nat.le_of_ble_eq_true rfl⟩) hw rfl (Nat.le_of_ble_eq_true rfl) (Nat.le_of_ble_eq_true rfl) (fun H locs hw => ?_)
      refine W.eq (g2 := F0 m 68 ls [.int z15]) rfl ?_
      have hw : w_W G z1.2 r s H locs := hw
      refine lv_istore (lv' := [(6, .int z15), (5, .int v10), (4, .int v6), (0, .ref this), (1, .int a0), (2, .int a1), (3, .int a2)]) hx hb dX11_sake_68 hl (by decide) rfl (fun ls hl => ?_)
      refine lv_iload_n hx hb dX11_sake_70 rfl (lv_at hl 6 rfl) ?_
      refine cx_if_eq (tgt := 77) E dX11_sake_71 (by decide) (fun _ => ?_) (fun _ => ?_)
      · refine lv_iload hx hb dX11_sake_77 (lv_at hl 0 rfl) ?_
        refine lv_iconst (v := 2) hx hb dX11_sake_79 (by decide) ?_
        refine lv_irem hx hb dX11_sake_80 (by decide) ?_
        refine cx_if_ne (tgt := 91) E dX11_sake_81 (by decide) (fun _ => ?_) (fun _ => ?_)
        · refine lv_iconst (v := (-1)) hx hb dX11_sake_91 (by decide) ?_
          exact p_iret E hw hr (Nat.le_of_ble_eq_true rfl) (Nat.le_of_ble_eq_true rfl) rfl dX11_sake_92
        · refine lv_iload hx hb dX11_sake_84 (lv_at hl 0 rfl) ?_
          refine lv_iconst (v := 2) hx hb dX11_sake_86 (by decide) ?_
          refine lv_idiv hx hb dX11_sake_87 (by decide) ?_
          refine lv_goto (tgt := 92) hx hb dX11_sake_88 (by decide) ?_
          exact p_iret E hw hr (Nat.le_of_ble_eq_true rfl) (Nat.le_of_ble_eq_true rfl) rfl dX11_sake_92
      · refine lv_iload hx hb dX11_sake_74 (lv_at hl 0 rfl) ?_
        exact p_iret E hw hr (Nat.le_of_ble_eq_true rfl) (Nat.le_of_ble_eq_true rfl) rfl dX11_sake_76
    · refine lv_iconst (v := (-1)) hx hb dX11_sake_52 (by decide) ?_
      exact p_iret E hw hr (Nat.le_of_ble_eq_true rfl) (Nat.le_of_ble_eq_true rfl) rfl dX11_sake_53
set_option maxHeartbeats 4000000 in
set_option maxRecDepth 100000 in
theorem t_Town_beginner (l : Launch) (hfl : l.stackTraces = false) (G : wG) (this : Nat) (a0 : Int32) (a1 : Int32) (a2 : Int32) (M : Mem) (r : Rho) : Ctr l yX8_beginner (wWs yX8_beginner cX8_beginner 7 (some .int)) rm_Town_beginner rm_Town_beginner.cells rm_Town_beginner.slots G [.ref this, .int a0, .int a1, .int a2] M r ((f_Town_beginner this a0 a1 a2 M).map (fun z => (.inl (some (.int z)), M, r))) := by
  refine Ctr.ofF (own := "CheekTown$Town") (by decide +kernel) hfl rfl (Nat.le_of_ble_eq_true rfl) (fun p e s m args below meth c E hno hr hnm hw ls hl => ?_)
  obtain ⟨hx, hb, hts, hown, hml, hTT, -⟩ := id E
  have hl : lv_has ls 7 [(0, .ref this), (1, .int a0), (2, .int a1), (3, .int a2)] := hl
  obtain ⟨H, hH⟩ : ∃ H, H = s.heap := ⟨_, rfl⟩
  obtain ⟨locs, hlo⟩ : ∃ L : List Loc, L = [] := ⟨_, rfl⟩
  rw [← hH, ← hlo]
  rw [← hlo] at hw
  replace hw : w_W G M r s H locs := by rw [hH]; exact hw
  have w58 : ∀ (y0 : Int32) (H : Heap) (locs : List Loc) (ls : Array Slot), w_W G M r s H locs → lv_has ls 7 [(2, .int a1), (3, .int a2)] → W p l e rm_Town_beginner s m args below meth c H locs 0 0 (PQ G below args s rm_Town_beginner.cells rm_Town_beginner.slots (fun z => (.inl (some (.int z)), M, r)) (f_Town_beginner_58 this a0 a1 a2 M y0)) (F0 m 58 ls [.int y0]) := by
    intro y0 H locs ls hw hl
    unfold f_Town_beginner_58
    refine lv_istore (lv' := [(6, .int y0), (2, .int a1), (3, .int a2)]) hx hb dX8_beginner_58 hl (by decide) rfl (fun ls hl => ?_)
    refine lv_iload hx hb dX8_beginner_60 (lv_at hl 0 rfl) ?_
    refine cx_if_eq (tgt := 69) E dX8_beginner_62 (by decide) (fun _ => ?_) (fun _ => ?_)
    · refine lv_iload_n hx hb dX8_beginner_69 rfl (lv_at hl 1 rfl) ?_
      exact p_iret E hw hr (Nat.le_of_ble_eq_true rfl) (Nat.le_of_ble_eq_true rfl) rfl dX8_beginner_70
    · refine lv_iload_n hx hb dX8_beginner_65 rfl (lv_at hl 2 rfl) ?_
      refine lv_goto (tgt := 70) hx hb dX8_beginner_66 (by decide) ?_
      exact p_iret E hw hr (Nat.le_of_ble_eq_true rfl) (Nat.le_of_ble_eq_true rfl) rfl dX8_beginner_70
  have w57 : ∀ (H : Heap) (locs : List Loc) (ls : Array Slot), w_W G M r s H locs → lv_has ls 7 [(2, .int a1), (3, .int a2)] → W p l e rm_Town_beginner s m args below meth c H locs 0 0 (PQ G below args s rm_Town_beginner.cells rm_Town_beginner.slots (fun z => (.inl (some (.int z)), M, r)) (f_Town_beginner_57 this a0 a1 a2 M)) (F0 m 57 ls []) := by
    intro H locs ls hw hl
    unfold f_Town_beginner_57
    refine lv_iconst (v := 0) hx hb dX8_beginner_57 (by decide) ?_
    exact w58  0 _ _ _ hw (lv_sub hl [0, 1] rfl)
  unfold f_Town_beginner
  refine lv_aload_n hx hb dX8_beginner_0 rfl (lv_at hl 0 rfl) ?_
  refine gx_getR E hw kF_Town_20_7 (by decide) dX8_beginner_1 (fun v1 _ => ?_)
  refine lv_iload_n hx hb dX8_beginner_4 rfl (lv_at hl 2 rfl) ?_
  refine gx_aald E hw (by decide) dX8_beginner_5 (fun v2 _ => ?_)
  refine gx_getI E hw kF_Town_93_5 (by decide) dX8_beginner_6 (fun v3 _ => ?_)
  refine lv_istore (lv' := [(4, .int v3), (0, .ref this), (1, .int a0), (2, .int a1), (3, .int a2)]) hx hb dX8_beginner_9 hl (by decide) rfl (fun ls hl => ?_)
  refine lv_aload_n hx hb dX8_beginner_11 rfl (lv_at hl 1 rfl) ?_
  refine gx_getR E hw kF_Town_20_7 (by decide) dX8_beginner_12 (fun v4 _ => ?_)
  refine lv_iload_n hx hb dX8_beginner_15 rfl (lv_at hl 4 rfl) ?_
  refine gx_aald E hw (by decide) dX8_beginner_16 (fun v5 _ => ?_)
  refine gx_getI E hw kF_Town_93_5 (by decide) dX8_beginner_17 (fun v6 _ => ?_)
  refine lv_istore (lv' := [(5, .int v6), (4, .int v3), (0, .ref this), (1, .int a0), (2, .int a1), (3, .int a2)]) hx hb dX8_beginner_20 hl (by decide) rfl (fun ls hl => ?_)
  refine lv_iload_n hx hb dX8_beginner_22 rfl (lv_at hl 3 rfl) ?_
  refine cx_if_ne (tgt := 41) E dX8_beginner_23 (by decide) (fun _ => ?_) (fun _ => ?_)
  · refine lv_iload_n hx hb dX8_beginner_41 rfl (lv_at hl 3 rfl) ?_
    refine lv_iconst (v := 1) hx hb dX8_beginner_42 (by decide) ?_
    refine cx_icmp_ne (tgt := 57) E dX8_beginner_43 (by decide) (fun _ => ?_) (fun _ => ?_)
    · exact w57   _ _ _ hw (lv_sub hl [4, 5] rfl)
    · refine lv_iload hx hb dX8_beginner_46 (lv_at hl 0 rfl) ?_
      refine lv_iload hx hb dX8_beginner_48 (lv_at hl 1 rfl) ?_
      refine cx_icmp_ge (tgt := 57) E dX8_beginner_50 (by decide) (fun _ => ?_) (fun _ => ?_)
      · exact w57   _ _ _ hw (lv_sub hl [4, 5] rfl)
      · refine lv_iconst (v := 1) hx hb dX8_beginner_53 (by decide) ?_
        refine lv_goto (tgt := 58) hx hb dX8_beginner_54 (by decide) ?_
        exact w58  1 _ _ _ hw (lv_sub hl [4, 5] rfl)
  · refine lv_iload hx hb dX8_beginner_26 (lv_at hl 0 rfl) ?_
    refine lv_iload hx hb dX8_beginner_28 (lv_at hl 1 rfl) ?_
    refine cx_icmp_le (tgt := 37) E dX8_beginner_30 (by decide) (fun _ => ?_) (fun _ => ?_)
    · refine lv_iconst (v := 0) hx hb dX8_beginner_37 (by decide) ?_
      refine lv_goto (tgt := 58) hx hb dX8_beginner_38 (by decide) ?_
      exact w58  0 _ _ _ hw (lv_sub hl [4, 5] rfl)
    · refine lv_iconst (v := 1) hx hb dX8_beginner_33 (by decide) ?_
      refine lv_goto (tgt := 58) hx hb dX8_beginner_34 (by decide) ?_
      exact w58  1 _ _ _ hw (lv_sub hl [4, 5] rfl)
set_option maxHeartbeats 4000000 in
set_option maxRecDepth 100000 in
theorem t_Town_costByRule (l : Launch) (hfl : l.stackTraces = false) (G : wG) (N : Nat) (this : Nat) (a0 : Int32) (M : Mem) (r : Rho) : Ctr l yX8_costByRule (wWs yX8_costByRule cX8_costByRule 8 (some .int)) rm_Town_costByRule rm_Town_costByRule.cells rm_Town_costByRule.slots G [.ref this, .int a0] M r ((f_Town_costByRule N this a0 M).map (fun z => (.inl (some (.int z.1)), z.2, r))) := by
  refine Ctr.ofF (own := "CheekTown$Town") (by decide +kernel) hfl rfl (Nat.le_of_ble_eq_true rfl) (fun p e s m args below meth c E hno hr hnm hw ls hl => ?_)
  obtain ⟨hx, hb, hts, hown, hml, hTT, -⟩ := id E
  have hl : lv_has ls 8 [(0, .ref this), (1, .int a0)] := hl
  obtain ⟨H, hH⟩ : ∃ H, H = s.heap := ⟨_, rfl⟩
  obtain ⟨locs, hlo⟩ : ∃ L : List Loc, L = [] := ⟨_, rfl⟩
  rw [← hH, ← hlo]
  rw [← hlo] at hw
  replace hw : w_W G M r s H locs := by rw [hH]; exact hw
  have w95 : ∀ (k4 : Int32 → Int32 → Mem → Option (Int32 × Mem)) (hk4 : ∀ (x2 : Int32) (x3 : Int32) (M : Mem) (H : Heap) (locs : List Loc) (ls : Array Slot), w_W G M r s H locs → lv_has ls 8 [(0, .ref this), (1, .int a0), (2, .int x2), (3, .int x3)] → W p l e rm_Town_costByRule s m args below meth c H locs 0 0 (PQ G below args s rm_Town_costByRule.cells rm_Town_costByRule.slots (fun z => (.inl (some (.int z.1)), z.2, r)) (k4 x2 x3 M)) (F0 m 4 ls [])) (x2 : Int32) (x3 : Int32) (x6 : Int32) (y0 : Int32) (M : Mem) (H : Heap) (locs : List Loc) (ls : Array Slot), w_W G M r s H locs → lv_has ls 8 [(0, .ref this), (1, .int a0), (2, .int x2), (3, .int x3), (6, .int x6)] → W p l e rm_Town_costByRule s m args below meth c H locs 0 0 (PQ G below args s rm_Town_costByRule.cells rm_Town_costByRule.slots (fun z => (.inl (some (.int z.1)), z.2, r)) (f_Town_costByRule_95 N this a0 k4 x2 x3 x6 y0 M)) (F0 m 95 ls [.int y0]) := by
    intro k4 hk4 x2 x3 x6 y0 M H locs ls hw hl
    unfold f_Town_costByRule_95
    refine lv_istore (lv' := [(7, .int y0), (0, .ref this), (1, .int a0), (2, .int x2), (3, .int x3), (6, .int x6)]) hx hb dX8_costByRule_95 hl (by decide) rfl (fun ls hl => ?_)
    refine lv_iload_n hx hb dX8_costByRule_97 rfl (lv_at hl 3 rfl) ?_
    refine lv_iload hx hb dX8_costByRule_98 (lv_at hl 5 rfl) ?_
    refine lv_bipush (v := 100) hx hb dX8_costByRule_100 (by decide) ?_
    refine lv_aload_n hx hb dX8_costByRule_102 rfl (lv_at hl 1 rfl) ?_
    refine gx_getR E hw kF_Town_20_7 (by decide) dX8_costByRule_103 (fun v18 _ => ?_)
    refine lv_iload hx hb dX8_costByRule_106 (lv_at hl 0 rfl) ?_
    refine gx_aald E hw (by decide) dX8_costByRule_108 (fun v19 _ => ?_)
    refine gx_getI E hw kF_Town_96_5 (by decide) dX8_costByRule_109 (fun v20 _ => ?_)
    refine lv_isub hx hb dX8_costByRule_112 ?_
    refine lv_imul hx hb dX8_costByRule_113 ?_
    refine lv_iadd hx hb dX8_costByRule_114 ?_
    refine lv_istore_n (lv' := [(2, .int (x2 + (x6 * (100 - v20)))), (7, .int y0), (0, .ref this), (1, .int a0), (3, .int x3), (6, .int x6)]) hx hb dX8_costByRule_115 rfl hl (by decide) rfl (fun ls hl => ?_)
    refine lv_iinc (v := x3 + 1) (lv' := [(3, .int (x3 + 1)), (2, .int (x2 + (x6 * (100 - v20)))), (7, .int y0), (0, .ref this), (1, .int a0), (6, .int x6)]) hx hb dX8_costByRule_116 hl (k := 4) rfl rfl (by decide) rfl (fun ls hl => ?_)
    refine lv_goto (tgt := 4) hx hb dX8_costByRule_119 (by decide) ?_
    exact hk4 (x2 + (x6 * (100 - v20))) (x3 + 1) M _ _ _ hw (lv_sub hl [3, 4, 1, 0] rfl)
  have w4 : ∀ (n : Nat) (x2 : Int32) (x3 : Int32) (M : Mem) (H : Heap) (locs : List Loc) (ls : Array Slot), w_W G M r s H locs → lv_has ls 8 [(0, .ref this), (1, .int a0), (2, .int x2), (3, .int x3)] → W p l e rm_Town_costByRule s m args below meth c H locs 0 0 (PQ G below args s rm_Town_costByRule.cells rm_Town_costByRule.slots (fun z => (.inl (some (.int z.1)), z.2, r)) (f_Town_costByRule_4 N this a0 n x2 x3 M)) (F0 m 4 ls []) := by
    intro n
    induction n with
    | zero => intros; exact W_none
    | succ n ih =>
      intro x2 x3 M H locs ls hw hl
      rw [f_Town_costByRule_4]
      refine lv_iload_n hx hb dX8_costByRule_4 rfl (lv_at hl 3 rfl) ?_
      refine lv_aload_n hx hb dX8_costByRule_5 rfl (lv_at hl 0 rfl) ?_
      refine gx_getI E hw kF_Town_59_7 (by decide) dX8_costByRule_6 (fun v1 _ => ?_)
      refine cx_icmp_ge (tgt := 122) E dX8_costByRule_9 (by decide) (fun _ => ?_) (fun _ => ?_)
      · refine lv_iload_n hx hb dX8_costByRule_122 rfl (lv_at hl 2 rfl) ?_
        exact p_iret E hw hr (Nat.le_of_ble_eq_true rfl) (Nat.le_of_ble_eq_true rfl) rfl dX8_costByRule_123
      · refine lv_aload_n hx hb dX8_costByRule_12 rfl (lv_at hl 0 rfl) ?_
        refine gx_getR E hw kF_Town_24_7 (by decide) dX8_costByRule_13 (fun v2 _ => ?_)
        refine lv_iload_n hx hb dX8_costByRule_16 rfl (lv_at hl 3 rfl) ?_
        refine gx_iald E hw dX8_costByRule_17 (fun v3 _ => ?_)
        refine lv_aload_n hx hb dX8_costByRule_18 rfl (lv_at hl 0 rfl) ?_
        refine gx_getR E hw kF_Town_28_7 (by decide) dX8_costByRule_19 (fun v4 _ => ?_)
        refine lv_iload_n hx hb dX8_costByRule_22 rfl (lv_at hl 3 rfl) ?_
        refine gx_iald E hw dX8_costByRule_23 (fun v5 _ => ?_)
        refine W_bind fun z6 hz => ?_
        refine w_after (cells1 := 0) (slots1 := 0) (w_runS E kS_Town_123 kc_J9_min_7cf53 (t_Math_min l hfl G v3 v5 M r ((fun z => (.inl (some (.int z)), M, r)) z6) (by rw [hz]; rfl)) ⟨Nat.le_of_ble_eq_true rfl, Nat.le_of_ble_eq_true rfl⟩ hw rfl hl.1 rfl (Nat.le_of_ble_eq_true rfl) dX8_costByRule_24 ⟨Nat.le_of_ble_eq_true rfl, Nat.le_of_ble_eq_true rfl⟩) hw rfl (Nat.le_of_ble_eq_true rfl) (Nat.le_of_ble_eq_true rfl) (fun H locs hw => ?_)
        refine W.eq (g2 := F0 m 27 ls [.int z6]) rfl ?_
        have hw : w_W G M r s H locs := hw
        refine lv_istore (lv' := [(4, .int z6), (0, .ref this), (1, .int a0), (2, .int x2), (3, .int x3)]) hx hb dX8_costByRule_27 hl (by decide) rfl (fun ls hl => ?_)
        refine lv_aload_n hx hb dX8_costByRule_29 rfl (lv_at hl 1 rfl) ?_
        refine gx_getR E hw kF_Town_24_7 (by decide) dX8_costByRule_30 (fun v7 _ => ?_)
        refine lv_iload_n hx hb dX8_costByRule_33 rfl (lv_at hl 4 rfl) ?_
        refine gx_iald E hw dX8_costByRule_34 (fun v8 _ => ?_)
        refine lv_aload_n hx hb dX8_costByRule_35 rfl (lv_at hl 1 rfl) ?_
        refine gx_getR E hw kF_Town_28_7 (by decide) dX8_costByRule_36 (fun v9 _ => ?_)
        refine lv_iload_n hx hb dX8_costByRule_39 rfl (lv_at hl 4 rfl) ?_
        refine gx_iald E hw dX8_costByRule_40 (fun v10 _ => ?_)
        refine W_bind fun z11 hz => ?_
        refine w_after (cells1 := 0) (slots1 := 0) (w_runS E kS_Town_128 kc_J9_max_7cf53 (t_Math_max l hfl G v8 v10 M r ((fun z => (.inl (some (.int z)), M, r)) z11) (by rw [hz]; rfl)) ⟨Nat.le_of_ble_eq_true rfl, Nat.le_of_ble_eq_true rfl⟩ hw rfl hl.1 rfl (Nat.le_of_ble_eq_true rfl) dX8_costByRule_41 ⟨Nat.le_of_ble_eq_true rfl, Nat.le_of_ble_eq_true rfl⟩) hw rfl (Nat.le_of_ble_eq_true rfl) (Nat.le_of_ble_eq_true rfl) (fun H locs hw => ?_)
        refine W.eq (g2 := F0 m 44 ls [.int z11]) rfl ?_
        have hw : w_W G M r s H locs := hw
        refine lv_istore (lv' := [(5, .int z11), (4, .int z6), (0, .ref this), (1, .int a0), (2, .int x2), (3, .int x3)]) hx hb dX8_costByRule_44 hl (by decide) rfl (fun ls hl => ?_)
        refine lv_aload_n hx hb dX8_costByRule_46 rfl (lv_at hl 2 rfl) ?_
        refine gx_getR E hw kF_Town_12_7 (by decide) dX8_costByRule_47 (fun v12 _ => ?_)
        refine gx_getR E hw kF_Town_133_0 (by decide) dX8_costByRule_50 (fun v13 _ => ?_)
        refine lv_aload_n hx hb dX8_costByRule_53 rfl (lv_at hl 2 rfl) ?_
        refine lv_iload hx hb dX8_costByRule_54 (lv_at hl 1 rfl) ?_
        refine lv_iload hx hb dX8_costByRule_56 (lv_at hl 0 rfl) ?_
        refine W_bind fun _ hck => ?_
        refine W_bind fun z14 hz => ?_
        refine w_after (cells1 := 0) (slots1 := 0) (w_runV E kV_Town_131 kc_X8_greetingFor (t_Town_greetingFor l hfl G N this z6 z11 M r ((fun z => (.inl (some (.int z.1)), z.2, r)) z14) (by rw [hz]; rfl)) ⟨Nat.le_of_ble_eq_true rfl, Nat.le_of_ble_eq_true rfl⟩ hw (w_recv E hw (by decide) ⟨_, _, rfl⟩ (ck_ok hck)) rfl hl.1 rfl (Nat.le_of_ble_eq_true rfl) dX8_costByRule_58 ⟨Nat.le_of_ble_eq_true rfl, Nat.le_of_ble_eq_true rfl⟩) hw rfl (Nat.le_of_ble_eq_true rfl) (Nat.le_of_ble_eq_true rfl) (fun H locs hw => ?_)
        refine W.eq (g2 := F0 m 61 ls [.int z14.1, .ref v13]) rfl ?_
        have hw : w_W G z14.2 r s H locs := hw
        refine lv_aload_n hx hb dX8_costByRule_61 rfl (lv_at hl 2 rfl) ?_
        refine lv_iload hx hb dX8_costByRule_62 (lv_at hl 0 rfl) ?_
        refine lv_iload hx hb dX8_costByRule_64 (lv_at hl 1 rfl) ?_
        refine W_bind fun _ hck => ?_
        refine W_bind fun z15 hz => ?_
        refine w_after (cells1 := 0) (slots1 := 0) (w_runV E kV_Town_131 kc_X8_greetingFor (t_Town_greetingFor l hfl G N this z11 z6 z14.2 r ((fun z => (.inl (some (.int z.1)), z.2, r)) z15) (by rw [hz]; rfl)) ⟨Nat.le_of_ble_eq_true rfl, Nat.le_of_ble_eq_true rfl⟩ hw (w_recv E hw (by decide) ⟨_, _, rfl⟩ (ck_ok hck)) rfl hl.1 rfl (Nat.le_of_ble_eq_true rfl) dX8_costByRule_66 ⟨Nat.le_of_ble_eq_true rfl, Nat.le_of_ble_eq_true rfl⟩) hw rfl (Nat.le_of_ble_eq_true rfl) (Nat.le_of_ble_eq_true rfl) (fun H locs hw => ?_)
        refine W.eq (g2 := F0 m 69 ls [.int z15.1, .int z14.1, .ref v13]) rfl ?_
        have hw : w_W G z15.2 r s H locs := hw
        refine W_bind fun _ hck => ?_
        refine W_bind fun z16 hz => ?_
        refine w_after (cells1 := 0) (slots1 := 0) (w_runV E kV_Town_137 kc_X4_costOf (t_Manners_costOf l hfl G v13 z14.1 z15.1 z15.2 r ((fun z => (.inl (some (.int z)), z15.2, r)) z16) (by rw [hz]; rfl)) ⟨Nat.le_of_ble_eq_true rfl, Nat.le_of_ble_eq_true rfl⟩ hw (w_recv E hw (by decide) ⟨_, _, rfl⟩ (ck_ok hck)) rfl hl.1 rfl (Nat.le_of_ble_eq_true rfl) dX8_costByRule_69 ⟨Nat.le_of_ble_eq_true rfl, Nat.le_of_ble_eq_true rfl⟩) hw rfl (Nat.le_of_ble_eq_true rfl) (Nat.le_of_ble_eq_true rfl) (fun H locs hw => ?_)
        refine W.eq (g2 := F0 m 72 ls [.int z16]) rfl ?_
        have hw : w_W G z15.2 r s H locs := hw
        refine lv_istore (lv' := [(6, .int z16), (5, .int z11), (4, .int z6), (0, .ref this), (1, .int a0), (2, .int x2), (3, .int x3)]) hx hb dX8_costByRule_72 hl (by decide) rfl (fun ls hl => ?_)
        refine lv_aload_n hx hb dX8_costByRule_74 rfl (lv_at hl 3 rfl) ?_
        refine lv_iload_n hx hb dX8_costByRule_75 rfl (lv_at hl 4 rfl) ?_
        refine lv_iload hx hb dX8_costByRule_76 (lv_at hl 2 rfl) ?_
        refine lv_iload hx hb dX8_costByRule_78 (lv_at hl 1 rfl) ?_
        refine W_bind fun _ hck => ?_
        refine W_bind fun z17 hz => ?_
        refine w_after (cells1 := 0) (slots1 := 0) (w_runV E kV_Town_178 kc_X8_beginner (t_Town_beginner l hfl G this a0 z6 z11 z15.2 r ((fun z => (.inl (some (.int z)), z15.2, r)) z17) (by rw [hz]; rfl)) ⟨Nat.le_of_ble_eq_true rfl, Nat.le_of_ble_eq_true rfl⟩ hw (w_recv E hw (by decide) ⟨_, _, rfl⟩ (ck_ok hck)) rfl hl.1 rfl (Nat.le_of_ble_eq_true rfl) dX8_costByRule_80 ⟨Nat.le_of_ble_eq_true rfl, Nat.le_of_ble_eq_true rfl⟩) hw rfl (Nat.le_of_ble_eq_true rfl) (Nat.le_of_ble_eq_true rfl) (fun H locs hw => ?_)
        refine W.eq (g2 := F0 m 83 ls [.int z17]) rfl ?_
        have hw : w_W G z15.2 r s H locs := hw
        refine lv_iload hx hb dX8_costByRule_83 (lv_at hl 2 rfl) ?_
        refine cx_icmp_ne (tgt := 93) E dX8_costByRule_85 (by decide) (fun _ => ?_) (fun _ => ?_)
        · refine lv_iload hx hb dX8_costByRule_93 (lv_at hl 2 rfl) ?_
          exact w95 (f_Town_costByRule_4 N this a0 n) ih x2 x3 z16 z6 z15.2 _ _ _ hw (lv_sub hl [3, 4, 5, 6, 0] rfl)
        · refine lv_iload hx hb dX8_costByRule_88 (lv_at hl 1 rfl) ?_
          refine lv_goto (tgt := 95) hx hb dX8_costByRule_90 (by decide) ?_
          exact w95 (f_Town_costByRule_4 N this a0 n) ih x2 x3 z16 z11 z15.2 _ _ _ hw (lv_sub hl [3, 4, 5, 6, 0] rfl)
  unfold f_Town_costByRule
  refine lv_iconst (v := 0) hx hb dX8_costByRule_0 (by decide) ?_
  refine lv_istore_n (lv' := [(2, .int 0), (0, .ref this), (1, .int a0)]) hx hb dX8_costByRule_1 rfl hl (by decide) rfl (fun ls hl => ?_)
  refine lv_iconst (v := 0) hx hb dX8_costByRule_2 (by decide) ?_
  refine lv_istore_n (lv' := [(3, .int 0), (2, .int 0), (0, .ref this), (1, .int a0)]) hx hb dX8_costByRule_3 rfl hl (by decide) rfl (fun ls hl => ?_)
  exact w4  N 0 0 M _ _ _ hw (lv_sub hl [2, 3, 1, 0] rfl)
set_option maxHeartbeats 4000000 in
set_option maxRecDepth 100000 in
theorem t_CT_begins (l : Launch) (hfl : l.stackTraces = false) (G : wG) (N : Nat) (this : Nat) (a0 : Int32) (M : Mem) (r : Rho) : Ctr l yX11_begins (wWs yX11_begins cX11_begins 4 (some .int)) rm_CT_begins rm_CT_begins.cells rm_CT_begins.slots G [.ref this, .int a0] M r ((f_CT_begins N this a0 M).map (fun z => (z.1.elim (fun v => .inl (some (.int v))) .inr, z.2, r))) := by
  refine Ctr.ofF (own := "CheekTown") (by decide +kernel) hfl rfl (Nat.le_of_ble_eq_true rfl) (fun p e s m args below meth c E hno hr hnm hw ls hl => ?_)
  obtain ⟨hx, hb, hts, hown, hml, hTT, -⟩ := id E
  have hl : lv_has ls 4 [(0, .ref this), (1, .int a0)] := hl
  obtain ⟨H, hH⟩ : ∃ H, H = s.heap := ⟨_, rfl⟩
  obtain ⟨locs, hlo⟩ : ∃ L : List Loc, L = [] := ⟨_, rfl⟩
  rw [← hH, ← hlo]
  rw [← hlo] at hw
  replace hw : w_W G M r s H locs := by rw [hH]; exact hw
  have w24 : ∀ (n : Nat) (x2 : Int32) (x3 : Int32) (M : Mem) (H : Heap) (locs : List Loc) (ls : Array Slot), w_W G M r s H locs → lv_has ls 4 [(0, .ref this), (2, .int x2), (3, .int x3)] → W p l e rm_CT_begins s m args below meth c H locs 1 6 (PQ G below args s rm_CT_begins.cells rm_CT_begins.slots (fun z => (z.1.elim (fun v => .inl (some (.int v))) .inr, z.2, r)) (f_CT_begins_24 N this a0 n x2 x3 M)) (F0 m 24 ls []) := by
    intro n
    induction n with
    | zero => intros; exact W_none
    | succ n ih =>
      intro x2 x3 M H locs ls hw hl
      rw [f_CT_begins_24]
      refine lv_iload_n hx hb dX11_begins_24 rfl (lv_at hl 2 rfl) ?_
      refine lv_iconst (v := 3) hx hb dX11_begins_25 (by decide) ?_
      refine cx_icmp_ge (tgt := 56) E dX11_begins_26 (by decide) (fun _ => ?_) (fun _ => ?_)
      · refine lv_iload_n hx hb dX11_begins_56 rfl (lv_at hl 1 rfl) ?_
        exact p_iret E hw hr (Nat.le_of_ble_eq_true rfl) (Nat.le_of_ble_eq_true rfl) rfl dX11_begins_57
      · refine lv_aload_n hx hb dX11_begins_29 rfl (lv_at hl 0 rfl) ?_
        refine gx_getR E hw kF_CT_20_10 (by decide) dX11_begins_30 (fun v5 _ => ?_)
        refine lv_iload_n hx hb dX11_begins_33 rfl (lv_at hl 2 rfl) ?_
        refine W_bind fun _ hck => ?_
        refine W_bind fun z6 hz => ?_
        refine w_after (cells1 := 1) (slots1 := 6) (w_runV E kV_CT_338 kc_X8_costByRule (t_Town_costByRule l hfl G N v5 x3 M r ((fun z => (.inl (some (.int z.1)), z.2, r)) z6) (by rw [hz]; rfl)) ⟨Nat.le_of_ble_eq_true rfl, Nat.le_of_ble_eq_true rfl⟩ hw (w_recv E hw (by decide) ⟨_, _, rfl⟩ (ck_ok hck)) rfl hl.1 rfl (Nat.le_of_ble_eq_true rfl) dX11_begins_34 ⟨Nat.le_of_ble_eq_true rfl, Nat.le_of_ble_eq_true rfl⟩) hw rfl (Nat.le_of_ble_eq_true rfl) (Nat.le_of_ble_eq_true rfl) (fun H locs hw => ?_)
        refine W.eq (g2 := F0 m 37 ls [.int z6.1]) rfl ?_
        have hw : w_W G z6.2 r s H locs := hw
        refine lv_aload_n hx hb dX11_begins_37 rfl (lv_at hl 0 rfl) ?_
        refine gx_getR E hw kF_CT_20_10 (by decide) dX11_begins_38 (fun v7 _ => ?_)
        refine lv_iload_n hx hb dX11_begins_41 rfl (lv_at hl 1 rfl) ?_
        refine W_bind fun _ hck => ?_
        refine W_bind fun z8 hz => ?_
        refine w_after (cells1 := 1) (slots1 := 6) (w_runV E kV_CT_338 kc_X8_costByRule (t_Town_costByRule l hfl G N v7 x2 z6.2 r ((fun z => (.inl (some (.int z.1)), z.2, r)) z8) (by rw [hz]; rfl)) ⟨Nat.le_of_ble_eq_true rfl, Nat.le_of_ble_eq_true rfl⟩ hw (w_recv E hw (by decide) ⟨_, _, rfl⟩ (ck_ok hck)) rfl hl.1 rfl (Nat.le_of_ble_eq_true rfl) dX11_begins_42 ⟨Nat.le_of_ble_eq_true rfl, Nat.le_of_ble_eq_true rfl⟩) hw rfl (Nat.le_of_ble_eq_true rfl) (Nat.le_of_ble_eq_true rfl) (fun H locs hw => ?_)
        refine W.eq (g2 := F0 m 45 ls [.int z8.1, .int z6.1]) rfl ?_
        have hw : w_W G z8.2 r s H locs := hw
        refine cx_icmp_ge (tgt := 50) E dX11_begins_45 (by decide) (fun _ => ?_) (fun _ => ?_)
        · refine lv_iinc (v := x3 + 1) (lv' := [(3, .int (x3 + 1)), (0, .ref this), (2, .int x2)]) hx hb dX11_begins_50 hl (k := 2) rfl rfl (by decide) rfl (fun ls hl => ?_)
          refine lv_goto (tgt := 24) hx hb dX11_begins_53 (by decide) ?_
          exact ih x2 (x3 + 1) z8.2 _ _ _ hw (lv_sub hl [1, 2, 0] rfl)
        · refine lv_iload_n hx hb dX11_begins_48 rfl (lv_at hl 2 rfl) ?_
          refine lv_istore_n (lv' := [(2, .int x3), (0, .ref this), (3, .int x3)]) hx hb dX11_begins_49 rfl hl (by decide) rfl (fun ls hl => ?_)
          refine lv_iinc (v := x3 + 1) (lv' := [(3, .int (x3 + 1)), (2, .int x3), (0, .ref this)]) hx hb dX11_begins_50 hl (k := 2) rfl rfl (by decide) rfl (fun ls hl => ?_)
          refine lv_goto (tgt := 24) hx hb dX11_begins_53 (by decide) ?_
          exact ih x3 (x3 + 1) z8.2 _ _ _ hw (lv_sub hl [2, 1, 0] rfl)
  unfold f_CT_begins
  refine lv_iload_n hx hb dX11_begins_0 rfl (lv_at hl 1 rfl) ?_
  refine lv_iconst (v := (-1)) hx hb dX11_begins_1 (by decide) ?_
  refine lv_iconst (v := 2) hx hb dX11_begins_2 (by decide) ?_
  refine W_bind fun z1 hz => ?_
  refine w_afterS (cells1 := 1) (slots1 := 6) (vv := (fun _ => none)) (w_runS E kS_CT_227 kc_X11_needNumber (t_CT_needNumber l hfl G a0 (-1) 2 M r ((fun z => (z.1.elim (fun _ => .inl none) .inr, z.2, r)) z1) (by rw [hz]; rfl)) ⟨Nat.le_of_ble_eq_true rfl, Nat.le_of_ble_eq_true rfl⟩ hw rfl hl.1 rfl (Nat.le_of_ble_eq_true rfl) dX11_begins_3 ⟨Nat.le_of_ble_eq_true rfl, Nat.le_of_ble_eq_true rfl⟩) hw rfl (Nat.le_of_ble_eq_true rfl) (Nat.le_of_ble_eq_true rfl) (fun v2 H locs _ hw => ?_) (fun E9 H locs q ce _ hw hce hcv hcl => w_out E hno hw hce hcv hcl (Nat.le_of_ble_eq_true rfl) (Nat.le_of_ble_eq_true rfl) rfl)
  refine W.eq (g2 := F0 m 6 ls []) rfl ?_
  have hw : w_W G z1.2 r s H locs := hw
  refine lv_iload_n hx hb dX11_begins_6 rfl (lv_at hl 1 rfl) ?_
  refine lv_iconst (v := (-1)) hx hb dX11_begins_7 (by decide) ?_
  refine cx_icmp_eq (tgt := 20) E dX11_begins_8 (by decide) (fun _ => ?_) (fun _ => ?_)
  · refine lv_iconst (v := 0) hx hb dX11_begins_20 (by decide) ?_
    refine lv_istore_n (lv' := [(2, .int 0), (0, .ref this), (1, .int a0)]) hx hb dX11_begins_21 rfl hl (by decide) rfl (fun ls hl => ?_)
    refine lv_iconst (v := 1) hx hb dX11_begins_22 (by decide) ?_
    refine lv_istore_n (lv' := [(3, .int 1), (2, .int 0), (0, .ref this), (1, .int a0)]) hx hb dX11_begins_23 rfl hl (by decide) rfl (fun ls hl => ?_)
    exact w24  N 0 1 z1.2 _ _ _ hw (lv_sub hl [2, 1, 0] rfl)
  · refine lv_aload_n hx hb dX11_begins_11 rfl (lv_at hl 0 rfl) ?_
    refine gx_getR E hw kF_CT_20_10 (by decide) dX11_begins_12 (fun v3 _ => ?_)
    refine lv_iload_n hx hb dX11_begins_15 rfl (lv_at hl 1 rfl) ?_
    refine W_bind fun _ hck => ?_
    refine W_bind fun z4 hz => ?_
    refine w_after (cells1 := 1) (slots1 := 6) (w_runV E kV_CT_338 kc_X8_costByRule (t_Town_costByRule l hfl G N v3 a0 z1.2 r ((fun z => (.inl (some (.int z.1)), z.2, r)) z4) (by rw [hz]; rfl)) ⟨Nat.le_of_ble_eq_true rfl, Nat.le_of_ble_eq_true rfl⟩ hw (w_recv E hw (by decide) ⟨_, _, rfl⟩ (ck_ok hck)) rfl hl.1 rfl (Nat.le_of_ble_eq_true rfl) dX11_begins_16 ⟨Nat.le_of_ble_eq_true rfl, Nat.le_of_ble_eq_true rfl⟩) hw rfl (Nat.le_of_ble_eq_true rfl) (Nat.le_of_ble_eq_true rfl) (fun H locs hw => ?_)
    refine W.eq (g2 := F0 m 19 ls [.int z4.1]) rfl ?_
    have hw : w_W G z4.2 r s H locs := hw
    exact p_iret E hw hr (Nat.le_of_ble_eq_true rfl) (Nat.le_of_ble_eq_true rfl) rfl dX11_begins_19

