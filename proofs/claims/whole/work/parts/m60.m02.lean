set_option maxHeartbeats 4000000 in
set_option maxRecDepth 100000 in
theorem t_Years_startFrom (l : Launch) (hfl : l.stackTraces = false) (G : wG) (N : Nat) (this : Nat) (a0 : Nat) (M : Mem) (r : Rho) : Ctr l yX10_startFrom (wWs yX10_startFrom cX10_startFrom 3 none) rm_Years_startFrom rm_Years_startFrom.cells rm_Years_startFrom.slots G [.ref this, .ref a0] M r ((f_Years_startFrom N this a0 M).map (fun z => (.inl none, z, r))) := by
  refine Ctr.ofF (own := "CheekTown$Years") (by decide +kernel) hfl rfl (Nat.le_of_ble_eq_true rfl) (fun p e s m args below meth c E hno hr hnm hw ls hl => ?_)
  obtain ⟨hx, hb, hts, hown, hml, hTT, -⟩ := id E
  have hl : lv_has ls 3 [(0, .ref this), (1, .ref a0)] := hl
  obtain ⟨H, hH⟩ : ∃ H, H = s.heap := ⟨_, rfl⟩
  obtain ⟨locs, hlo⟩ : ∃ L : List Loc, L = [] := ⟨_, rfl⟩
  rw [← hH, ← hlo]
  rw [← hlo] at hw
  replace hw : w_W G M r s H locs := by rw [hH]; exact hw
  have w10 : ∀ (n : Nat) (x2 : Int32) (M : Mem) (H : Heap) (locs : List Loc) (ls : Array Slot), w_W G M r s H locs → lv_has ls 3 [(0, .ref this), (1, .ref a0), (2, .int x2)] → W p l e rm_Years_startFrom s m args below meth c H locs 0 0 (PQ G below args s rm_Years_startFrom.cells rm_Years_startFrom.slots (fun z => (.inl none, z, r)) (f_Years_startFrom_10 N this a0 n x2 M)) (F0 m 10 ls []) := by
    intro n
    induction n with
    | zero => intros; exact W_none
    | succ n ih =>
      intro x2 M H locs ls hw hl
      rw [f_Years_startFrom_10]
      refine lv_iload_n hx hb dX10_startFrom_10 rfl (lv_at hl 2 rfl) ?_
      refine lv_aload_n hx hb dX10_startFrom_11 rfl (lv_at hl 0 rfl) ?_
      refine gx_getI E hw kF_Years_33_9 (by decide) dX10_startFrom_12 (fun v3 _ => ?_)
      refine cx_icmp_ge (tgt := 65) E dX10_startFrom_15 (by decide) (fun _ => ?_) (fun _ => ?_)
      · exact p_vret E hw hr (Nat.le_of_ble_eq_true rfl) (Nat.le_of_ble_eq_true rfl) rfl dX10_startFrom_65
      · refine lv_aload_n hx hb dX10_startFrom_18 rfl (lv_at hl 0 rfl) ?_
        refine gx_getR E hw kF_Years_9_9 (by decide) dX10_startFrom_19 (fun v4 _ => ?_)
        refine lv_iload_n hx hb dX10_startFrom_22 rfl (lv_at hl 2 rfl) ?_
        refine lv_aload_n hx hb dX10_startFrom_23 rfl (lv_at hl 1 rfl) ?_
        refine gx_getR E hw kF_Years_36_7 (by decide) dX10_startFrom_24 (fun v5 _ => ?_)
        refine lv_iload_n hx hb dX10_startFrom_27 rfl (lv_at hl 2 rfl) ?_
        refine gx_aald E hw (by decide) dX10_startFrom_28 (fun v6 _ => ?_)
        refine gx_getI E hw kF_Years_39_5 (by decide) dX10_startFrom_29 (fun v7 _ => ?_)
        refine lv_iconst (v := 1) hx hb dX10_startFrom_32 (by decide) ?_
        refine lv_iload_n hx hb dX10_startFrom_33 rfl (lv_at hl 2 rfl) ?_
        refine lv_ishl hx hb dX10_startFrom_34 ?_
        refine lv_ior hx hb dX10_startFrom_35 ?_
        refine gx_iast E hw dX10_startFrom_36 (fun M8 H locs _ hw => ?_)
        refine lv_aload_n hx hb dX10_startFrom_37 rfl (lv_at hl 0 rfl) ?_
        refine gx_getR E hw kF_Years_15_9 (by decide) dX10_startFrom_38 (fun v9 _ => ?_)
        refine lv_iload_n hx hb dX10_startFrom_41 rfl (lv_at hl 2 rfl) ?_
        refine lv_aload_n hx hb dX10_startFrom_42 rfl (lv_at hl 1 rfl) ?_
        refine gx_getR E hw kF_Years_36_7 (by decide) dX10_startFrom_43 (fun v10 _ => ?_)
        refine lv_iload_n hx hb dX10_startFrom_46 rfl (lv_at hl 2 rfl) ?_
        refine gx_aald E hw (by decide) dX10_startFrom_47 (fun v11 _ => ?_)
        refine gx_getI E hw kF_Years_44_5 (by decide) dX10_startFrom_48 (fun v12 _ => ?_)
        refine gx_iast E hw dX10_startFrom_51 (fun M13 H locs _ hw => ?_)
        refine lv_aload_n hx hb dX10_startFrom_52 rfl (lv_at hl 0 rfl) ?_
        refine gx_getR E hw kF_Years_18_9 (by decide) dX10_startFrom_53 (fun v14 _ => ?_)
        refine lv_iload_n hx hb dX10_startFrom_56 rfl (lv_at hl 2 rfl) ?_
        refine lv_iconst (v := (-1)) hx hb dX10_startFrom_57 (by decide) ?_
        refine gx_iast E hw dX10_startFrom_58 (fun M15 H locs _ hw => ?_)
        refine lv_iinc (v := x2 + 1) (lv' := [(2, .int (x2 + 1)), (0, .ref this), (1, .ref a0)]) hx hb dX10_startFrom_59 hl (k := 2) rfl rfl (by decide) rfl (fun ls hl => ?_)
        refine lv_goto (tgt := 10) hx hb dX10_startFrom_62 (by decide) ?_
        exact ih (x2 + 1) M15 _ _ _ hw (lv_sub hl [1, 2, 0] rfl)
  unfold f_Years_startFrom
  refine lv_aload_n hx hb dX10_startFrom_0 rfl (lv_at hl 0 rfl) ?_
  refine lv_aload_n hx hb dX10_startFrom_1 rfl (lv_at hl 1 rfl) ?_
  refine gx_getI E hw kF_Years_27_7 (by decide) dX10_startFrom_2 (fun v1 _ => ?_)
  refine gx_putI E hw kF_Years_33_9 kT_9_0 (by decide) dX10_startFrom_5 (fun M2 H locs _ hw => ?_)
  refine lv_iconst (v := 0) hx hb dX10_startFrom_8 (by decide) ?_
  refine lv_istore_n (lv' := [(2, .int 0), (0, .ref this), (1, .ref a0)]) hx hb dX10_startFrom_9 rfl hl (by decide) rfl (fun ls hl => ?_)
  exact w10  N 0 M2 _ _ _ hw (lv_sub hl [1, 2, 0] rfl)
set_option maxHeartbeats 4000000 in
set_option maxRecDepth 100000 in
theorem t_Years_mostAround (l : Launch) (hfl : l.stackTraces = false) (G : wG) (N : Nat) (this : Nat) (a0 : Int32) (M : Mem) (r : Rho) : Ctr l yX10_mostAround (wWs yX10_mostAround cX10_mostAround 7 (some .int)) rm_Years_mostAround rm_Years_mostAround.cells rm_Years_mostAround.slots G [.ref this, .int a0] M r ((f_Years_mostAround N this a0 M).map (fun z => (.inl (some (.int z.1)), z.2, r))) := by
  refine Ctr.ofF (own := "CheekTown$Years") (by decide +kernel) hfl rfl (Nat.le_of_ble_eq_true rfl) (fun p e s m args below meth c E hno hr hnm hw ls hl => ?_)
  obtain ⟨hx, hb, hts, hown, hml, hTT, -⟩ := id E
  have hl : lv_has ls 7 [(0, .ref this), (1, .int a0)] := hl
  obtain ⟨H, hH⟩ : ∃ H, H = s.heap := ⟨_, rfl⟩
  obtain ⟨locs, hlo⟩ : ∃ L : List Loc, L = [] := ⟨_, rfl⟩
  rw [← hH, ← hlo]
  rw [← hlo] at hw
  replace hw : w_W G M r s H locs := by rw [hH]; exact hw
  have w166 : ∀ (x3 : Int32) (M : Mem) (H : Heap) (locs : List Loc) (ls : Array Slot), w_W G M r s H locs → lv_has ls 7 [(0, .ref this), (3, .int x3)] → W p l e rm_Years_mostAround s m args below meth c H locs 0 0 (PQ G below args s rm_Years_mostAround.cells rm_Years_mostAround.slots (fun z => (.inl (some (.int z.1)), z.2, r)) (f_Years_mostAround_166 N this a0 x3 M)) (F0 m 166 ls []) := by
    intro x3 M H locs ls hw hl
    unfold f_Years_mostAround_166
    refine lv_aload_n hx hb dX10_mostAround_166 rfl (lv_at hl 0 rfl) ?_
    refine gx_getR E hw kF_Years_24_9 (by decide) dX10_mostAround_167 (fun v24 _ => ?_)
    refine lv_iconst (v := 0) hx hb dX10_mostAround_170 (by decide) ?_
    refine W_bind fun z25 hz => ?_
    refine w_after (cells1 := 0) (slots1 := 0) (w_runS E kS_Years_68 kc_J7_fill_53178 (t_Arrays_fill l hfl G N v24 0 M r ((fun z => (.inl none, z, r)) z25) (by rw [hz]; rfl)) ⟨Nat.le_of_ble_eq_true rfl, Nat.le_of_ble_eq_true rfl⟩ hw rfl hl.1 rfl (Nat.le_of_ble_eq_true rfl) dX10_mostAround_171 ⟨Nat.le_of_ble_eq_true rfl, Nat.le_of_ble_eq_true rfl⟩) hw rfl (Nat.le_of_ble_eq_true rfl) (Nat.le_of_ble_eq_true rfl) (fun H locs hw => ?_)
    refine W.eq (g2 := F0 m 174 ls []) rfl ?_
    have hw : w_W G z25 r s H locs := hw
    refine lv_iload_n hx hb dX10_mostAround_174 rfl (lv_at hl 1 rfl) ?_
    exact p_iret E hw hr (Nat.le_of_ble_eq_true rfl) (Nat.le_of_ble_eq_true rfl) rfl dX10_mostAround_175
  have w129 : ∀ (k89 : Int32 → Int32 → Int32 → Int32 → Mem → Option (Int32 × Mem)) (hk89 : ∀ (x2 : Int32) (x3 : Int32) (x4 : Int32) (x5 : Int32) (M : Mem) (H : Heap) (locs : List Loc) (ls : Array Slot), w_W G M r s H locs → lv_has ls 7 [(0, .ref this), (2, .int x2), (3, .int x3), (4, .int x4), (5, .int x5)] → W p l e rm_Years_mostAround s m args below meth c H locs 0 0 (PQ G below args s rm_Years_mostAround.cells rm_Years_mostAround.slots (fun z => (.inl (some (.int z.1)), z.2, r)) (k89 x2 x3 x4 x5 M)) (F0 m 89 ls [])) (x2 : Int32) (x3 : Int32) (x4 : Int32) (x5 : Int32) (y0 : Int32) (M : Mem) (H : Heap) (locs : List Loc) (ls : Array Slot), w_W G M r s H locs → lv_has ls 7 [(0, .ref this), (2, .int x2), (3, .int x3), (4, .int x4), (5, .int x5)] → W p l e rm_Years_mostAround s m args below meth c H locs 0 0 (PQ G below args s rm_Years_mostAround.cells rm_Years_mostAround.slots (fun z => (.inl (some (.int z.1)), z.2, r)) (f_Years_mostAround_129 N this a0 k89 x2 x3 x4 x5 y0 M)) (F0 m 129 ls [.int y0]) := by
    intro k89 hk89 x2 x3 x4 x5 y0 M H locs ls hw hl
    unfold f_Years_mostAround_129
    refine lv_istore (lv' := [(6, .int y0), (0, .ref this), (2, .int x2), (3, .int x3), (4, .int x4), (5, .int x5)]) hx hb dX10_mostAround_129 hl (by decide) rfl (fun ls hl => ?_)
    refine lv_aload_n hx hb dX10_mostAround_131 rfl (lv_at hl 1 rfl) ?_
    refine gx_getR E hw kF_Years_24_9 (by decide) dX10_mostAround_132 (fun v26 _ => ?_)
    refine lv_aload_n hx hb dX10_mostAround_135 rfl (lv_at hl 1 rfl) ?_
    refine gx_getR E hw kF_Years_15_9 (by decide) dX10_mostAround_136 (fun v27 _ => ?_)
    refine lv_iload hx hb dX10_mostAround_139 (lv_at hl 5 rfl) ?_
    refine gx_iald E hw dX10_mostAround_141 (fun v28 _ => ?_)
    refine gx_iald E hw dX10_mostAround_142 (fun v29 _ => ?_)
    refine lv_iload_n hx hb dX10_mostAround_143 rfl (lv_at hl 2 rfl) ?_
    refine cx_icmp_ne (tgt := 160) E dX10_mostAround_144 (by decide) (fun _ => ?_) (fun _ => ?_)
    · refine lv_iinc (v := x5 + 1) (lv' := [(5, .int (x5 + 1)), (6, .int y0), (0, .ref this), (2, .int x2), (3, .int x3), (4, .int x4)]) hx hb dX10_mostAround_160 hl (k := 5) rfl rfl (by decide) rfl (fun ls hl => ?_)
      refine lv_goto (tgt := 89) hx hb dX10_mostAround_163 (by decide) ?_
      exact hk89 x2 x3 x4 (x5 + 1) M _ _ _ hw (lv_sub hl [2, 3, 4, 5, 0] rfl)
    · refine lv_iload hx hb dX10_mostAround_147 (lv_at hl 0 rfl) ?_
      refine cx_if_eq (tgt := 160) E dX10_mostAround_149 (by decide) (fun _ => ?_) (fun _ => ?_)
      · refine lv_iinc (v := x5 + 1) (lv' := [(5, .int (x5 + 1)), (6, .int y0), (0, .ref this), (2, .int x2), (3, .int x3), (4, .int x4)]) hx hb dX10_mostAround_160 hl (k := 5) rfl rfl (by decide) rfl (fun ls hl => ?_)
        refine lv_goto (tgt := 89) hx hb dX10_mostAround_163 (by decide) ?_
        exact hk89 x2 x3 x4 (x5 + 1) M _ _ _ hw (lv_sub hl [2, 3, 4, 5, 0] rfl)
      · refine lv_aload_n hx hb dX10_mostAround_152 rfl (lv_at hl 1 rfl) ?_
        refine gx_getR E hw kF_Years_15_9 (by decide) dX10_mostAround_153 (fun v30 _ => ?_)
        refine lv_iload hx hb dX10_mostAround_156 (lv_at hl 5 rfl) ?_
        refine gx_iald E hw dX10_mostAround_158 (fun v31 _ => ?_)
        refine lv_istore_n (lv' := [(3, .int v31), (6, .int y0), (0, .ref this), (2, .int x2), (4, .int x4), (5, .int x5)]) hx hb dX10_mostAround_159 rfl hl (by decide) rfl (fun ls hl => ?_)
        refine lv_iinc (v := x5 + 1) (lv' := [(5, .int (x5 + 1)), (3, .int v31), (6, .int y0), (0, .ref this), (2, .int x2), (4, .int x4)]) hx hb dX10_mostAround_160 hl (k := 5) rfl rfl (by decide) rfl (fun ls hl => ?_)
        refine lv_goto (tgt := 89) hx hb dX10_mostAround_163 (by decide) ?_
        exact hk89 x2 v31 x4 (x5 + 1) M _ _ _ hw (lv_sub hl [3, 4, 1, 5, 0] rfl)
  have w124 : ∀ (k89 : Int32 → Int32 → Int32 → Int32 → Mem → Option (Int32 × Mem)) (hk89 : ∀ (x2 : Int32) (x3 : Int32) (x4 : Int32) (x5 : Int32) (M : Mem) (H : Heap) (locs : List Loc) (ls : Array Slot), w_W G M r s H locs → lv_has ls 7 [(0, .ref this), (2, .int x2), (3, .int x3), (4, .int x4), (5, .int x5)] → W p l e rm_Years_mostAround s m args below meth c H locs 0 0 (PQ G below args s rm_Years_mostAround.cells rm_Years_mostAround.slots (fun z => (.inl (some (.int z.1)), z.2, r)) (k89 x2 x3 x4 x5 M)) (F0 m 89 ls [])) (x2 : Int32) (x3 : Int32) (x4 : Int32) (x5 : Int32) (M : Mem) (H : Heap) (locs : List Loc) (ls : Array Slot), w_W G M r s H locs → lv_has ls 7 [(0, .ref this), (2, .int x2), (3, .int x3), (4, .int x4), (5, .int x5)] → W p l e rm_Years_mostAround s m args below meth c H locs 0 0 (PQ G below args s rm_Years_mostAround.cells rm_Years_mostAround.slots (fun z => (.inl (some (.int z.1)), z.2, r)) (f_Years_mostAround_124 N this a0 k89 x2 x3 x4 x5 M)) (F0 m 124 ls []) := by
    intro k89 hk89 x2 x3 x4 x5 M H locs ls hw hl
    unfold f_Years_mostAround_124
    refine lv_iconst (v := 1) hx hb dX10_mostAround_124 (by decide) ?_
    refine lv_goto (tgt := 129) hx hb dX10_mostAround_125 (by decide) ?_
    exact w129 k89 hk89 x2 x3 x4 x5 1 M _ _ _ hw (lv_sub hl [0, 1, 2, 3, 4] rfl)
  have w89 : ∀ (n : Nat) (x2 : Int32) (x3 : Int32) (x4 : Int32) (x5 : Int32) (M : Mem) (H : Heap) (locs : List Loc) (ls : Array Slot), w_W G M r s H locs → lv_has ls 7 [(0, .ref this), (2, .int x2), (3, .int x3), (4, .int x4), (5, .int x5)] → W p l e rm_Years_mostAround s m args below meth c H locs 0 0 (PQ G below args s rm_Years_mostAround.cells rm_Years_mostAround.slots (fun z => (.inl (some (.int z.1)), z.2, r)) (f_Years_mostAround_89 N this a0 n x2 x3 x4 x5 M)) (F0 m 89 ls []) := by
    intro n
    induction n with
    | zero => intros; exact W_none
    | succ n ih =>
      intro x2 x3 x4 x5 M H locs ls hw hl
      rw [f_Years_mostAround_89]
      refine lv_iload hx hb dX10_mostAround_89 (lv_at hl 4 rfl) ?_
      refine lv_aload_n hx hb dX10_mostAround_91 rfl (lv_at hl 0 rfl) ?_
      refine gx_getI E hw kF_Years_33_9 (by decide) dX10_mostAround_92 (fun v19 _ => ?_)
      refine cx_icmp_ge (tgt := 166) E dX10_mostAround_95 (by decide) (fun _ => ?_) (fun _ => ?_)
      · exact w166  x3 M _ _ _ hw (lv_sub hl [0, 2] rfl)
      · refine lv_iload hx hb dX10_mostAround_98 (lv_at hl 3 rfl) ?_
        refine cx_if_ne (tgt := 166) E dX10_mostAround_100 (by decide) (fun _ => ?_) (fun _ => ?_)
        · exact w166  x3 M _ _ _ hw (lv_sub hl [0, 2] rfl)
        · refine lv_aload_n hx hb dX10_mostAround_103 rfl (lv_at hl 0 rfl) ?_
          refine gx_getR E hw kF_Years_24_9 (by decide) dX10_mostAround_104 (fun v20 _ => ?_)
          refine lv_iload_n hx hb dX10_mostAround_107 rfl (lv_at hl 2 rfl) ?_
          refine gx_iald E hw dX10_mostAround_108 (fun v21 _ => ?_)
          refine lv_iload_n hx hb dX10_mostAround_109 rfl (lv_at hl 1 rfl) ?_
          refine cx_icmp_lt (tgt := 124) E dX10_mostAround_110 (by decide) (fun _ => ?_) (fun _ => ?_)
          · exact w124 (f_Years_mostAround_89 N this a0 n) ih x2 x3 x4 x5 M _ _ _ hw (lv_sub hl [0, 1, 2, 3, 4] rfl)
          · refine lv_aload_n hx hb dX10_mostAround_113 rfl (lv_at hl 0 rfl) ?_
            refine gx_getR E hw kF_Years_15_9 (by decide) dX10_mostAround_114 (fun v22 _ => ?_)
            refine lv_iload hx hb dX10_mostAround_117 (lv_at hl 4 rfl) ?_
            refine gx_iald E hw dX10_mostAround_119 (fun v23 _ => ?_)
            refine lv_iload_n hx hb dX10_mostAround_120 rfl (lv_at hl 2 rfl) ?_
            refine cx_icmp_ge (tgt := 128) E dX10_mostAround_121 (by decide) (fun _ => ?_) (fun _ => ?_)
            · refine lv_iconst (v := 0) hx hb dX10_mostAround_128 (by decide) ?_
              exact w129 (f_Years_mostAround_89 N this a0 n) ih x2 x3 x4 x5 0 M _ _ _ hw (lv_sub hl [0, 1, 2, 3, 4] rfl)
            · exact w124 (f_Years_mostAround_89 N this a0 n) ih x2 x3 x4 x5 M _ _ _ hw (lv_sub hl [0, 1, 2, 3, 4] rfl)
  have w84 : ∀ (x2 : Int32) (x3 : Int32) (y0 : Int32) (M : Mem) (H : Heap) (locs : List Loc) (ls : Array Slot), w_W G M r s H locs → lv_has ls 7 [(0, .ref this), (2, .int x2), (3, .int x3)] → W p l e rm_Years_mostAround s m args below meth c H locs 0 0 (PQ G below args s rm_Years_mostAround.cells rm_Years_mostAround.slots (fun z => (.inl (some (.int z.1)), z.2, r)) (f_Years_mostAround_84 N this a0 x2 x3 y0 M)) (F0 m 84 ls [.int y0]) := by
    intro x2 x3 y0 M H locs ls hw hl
    unfold f_Years_mostAround_84
    refine lv_istore (lv' := [(4, .int y0), (0, .ref this), (2, .int x2), (3, .int x3)]) hx hb dX10_mostAround_84 hl (by decide) rfl (fun ls hl => ?_)
    refine lv_iconst (v := 0) hx hb dX10_mostAround_86 (by decide) ?_
    refine lv_istore (lv' := [(5, .int 0), (4, .int y0), (0, .ref this), (2, .int x2), (3, .int x3)]) hx hb dX10_mostAround_87 hl (by decide) rfl (fun ls hl => ?_)
    exact w89  N x2 x3 y0 0 M _ _ _ hw (lv_sub hl [2, 3, 4, 1, 0] rfl)
  have w4 : ∀ (n : Nat) (x2 : Int32) (x3 : Int32) (M : Mem) (H : Heap) (locs : List Loc) (ls : Array Slot), w_W G M r s H locs → lv_has ls 7 [(0, .ref this), (1, .int a0), (2, .int x2), (3, .int x3)] → W p l e rm_Years_mostAround s m args below meth c H locs 0 0 (PQ G below args s rm_Years_mostAround.cells rm_Years_mostAround.slots (fun z => (.inl (some (.int z.1)), z.2, r)) (f_Years_mostAround_4 N this a0 n x2 x3 M)) (F0 m 4 ls []) := by
    intro n
    induction n with
    | zero => intros; exact W_none
    | succ n ih =>
      intro x2 x3 M H locs ls hw hl
      rw [f_Years_mostAround_4]
      refine lv_iload_n hx hb dX10_mostAround_4 rfl (lv_at hl 3 rfl) ?_
      refine lv_aload_n hx hb dX10_mostAround_5 rfl (lv_at hl 0 rfl) ?_
      refine gx_getI E hw kF_Years_33_9 (by decide) dX10_mostAround_6 (fun v1 _ => ?_)
      refine cx_icmp_ge (tgt := 62) E dX10_mostAround_9 (by decide) (fun _ => ?_) (fun _ => ?_)
      · refine lv_aload_n hx hb dX10_mostAround_62 rfl (lv_at hl 0 rfl) ?_
        refine gx_getR E hw kF_Years_15_9 (by decide) dX10_mostAround_63 (fun v2 _ => ?_)
        refine lv_iload_n hx hb dX10_mostAround_66 rfl (lv_at hl 1 rfl) ?_
        refine gx_iald E hw dX10_mostAround_67 (fun v3 _ => ?_)
        refine lv_istore_n (lv' := [(3, .int v3), (0, .ref this), (1, .int a0), (2, .int x2)]) hx hb dX10_mostAround_68 rfl hl (by decide) rfl (fun ls hl => ?_)
        refine lv_aload_n hx hb dX10_mostAround_69 rfl (lv_at hl 1 rfl) ?_
        refine gx_getR E hw kF_Years_24_9 (by decide) dX10_mostAround_70 (fun v4 _ => ?_)
        refine lv_iload_n hx hb dX10_mostAround_73 rfl (lv_at hl 0 rfl) ?_
        refine gx_iald E hw dX10_mostAround_74 (fun v5 _ => ?_)
        refine lv_iload_n hx hb dX10_mostAround_75 rfl (lv_at hl 3 rfl) ?_
        refine cx_icmp_ne (tgt := 83) E dX10_mostAround_76 (by decide) (fun _ => ?_) (fun _ => ?_)
        · refine lv_iconst (v := 0) hx hb dX10_mostAround_83 (by decide) ?_
          exact w84  x2 v3 0 M _ _ _ hw (lv_sub hl [1, 3, 0] rfl)
        · refine lv_iconst (v := 1) hx hb dX10_mostAround_79 (by decide) ?_
          refine lv_goto (tgt := 84) hx hb dX10_mostAround_80 (by decide) ?_
          exact w84  x2 v3 1 M _ _ _ hw (lv_sub hl [1, 3, 0] rfl)
      · refine lv_aload_n hx hb dX10_mostAround_12 rfl (lv_at hl 0 rfl) ?_
        refine gx_getR E hw kF_Years_9_9 (by decide) dX10_mostAround_13 (fun v6 _ => ?_)
        refine lv_iload_n hx hb dX10_mostAround_16 rfl (lv_at hl 1 rfl) ?_
        refine gx_iald E hw dX10_mostAround_17 (fun v7 _ => ?_)
        refine lv_iload_n hx hb dX10_mostAround_18 rfl (lv_at hl 3 rfl) ?_
        refine W_bind fun z8 hz => ?_
        refine w_after (cells1 := 0) (slots1 := 0) (w_runSN E kSN_Years_47 kc_X11_isIn (t_CT_isIn l hfl G v7 x3 M r ((fun z => (.inl (some (.int z)), M, r)) z8) (by rw [hz]; rfl)) ⟨Nat.le_of_ble_eq_true rfl, Nat.le_of_ble_eq_true rfl⟩ hw rfl hl.1 rfl (Nat.le_of_ble_eq_true rfl) dX10_mostAround_19 ⟨Nat.le_of_ble_eq_true rfl, Nat.le_of_ble_eq_true rfl⟩) hw rfl (Nat.le_of_ble_eq_true rfl) (Nat.le_of_ble_eq_true rfl) (fun H locs hw => ?_)
        refine W.eq (g2 := F0 m 22 ls [.int z8]) rfl ?_
        have hw : w_W G M r s H locs := hw
        refine cx_if_eq (tgt := 56) E dX10_mostAround_22 (by decide) (fun _ => ?_) (fun _ => ?_)
        · refine lv_iinc (v := x3 + 1) (lv' := [(3, .int (x3 + 1)), (0, .ref this), (1, .int a0), (2, .int x2)]) hx hb dX10_mostAround_56 hl (k := 3) rfl rfl (by decide) rfl (fun ls hl => ?_)
          refine lv_goto (tgt := 4) hx hb dX10_mostAround_59 (by decide) ?_
          exact ih x2 (x3 + 1) M _ _ _ hw (lv_sub hl [1, 2, 3, 0] rfl)
        · refine lv_aload_n hx hb dX10_mostAround_25 rfl (lv_at hl 0 rfl) ?_
          refine gx_getR E hw kF_Years_24_9 (by decide) dX10_mostAround_26 (fun v9 _ => ?_)
          refine lv_aload_n hx hb dX10_mostAround_29 rfl (lv_at hl 0 rfl) ?_
          refine gx_getR E hw kF_Years_15_9 (by decide) dX10_mostAround_30 (fun v10 _ => ?_)
          refine lv_iload_n hx hb dX10_mostAround_33 rfl (lv_at hl 3 rfl) ?_
          refine gx_iald E hw dX10_mostAround_34 (fun v11 _ => ?_)
          refine lv_dup2_11 hx hb dX10_mostAround_35 rfl rfl ?_
          refine gx_iald E hw dX10_mostAround_36 (fun v12 _ => ?_)
          refine lv_iconst (v := 1) hx hb dX10_mostAround_37 (by decide) ?_
          refine lv_iadd hx hb dX10_mostAround_38 ?_
          refine gx_iast E hw dX10_mostAround_39 (fun M13 H locs _ hw => ?_)
          refine lv_iload_n hx hb dX10_mostAround_40 rfl (lv_at hl 2 rfl) ?_
          refine lv_aload_n hx hb dX10_mostAround_41 rfl (lv_at hl 0 rfl) ?_
          refine gx_getR E hw kF_Years_24_9 (by decide) dX10_mostAround_42 (fun v14 _ => ?_)
          refine lv_aload_n hx hb dX10_mostAround_45 rfl (lv_at hl 0 rfl) ?_
          refine gx_getR E hw kF_Years_15_9 (by decide) dX10_mostAround_46 (fun v15 _ => ?_)
          refine lv_iload_n hx hb dX10_mostAround_49 rfl (lv_at hl 3 rfl) ?_
          refine gx_iald E hw dX10_mostAround_50 (fun v16 _ => ?_)
          refine gx_iald E hw dX10_mostAround_51 (fun v17 _ => ?_)
          refine W_bind fun z18 hz => ?_
          refine w_after (cells1 := 0) (slots1 := 0) (w_runS E kS_Years_62 kc_J9_max_7cf53 (t_Math_max l hfl G x2 v17 M13 r ((fun z => (.inl (some (.int z)), M13, r)) z18) (by rw [hz]; rfl)) ⟨Nat.le_of_ble_eq_true rfl, Nat.le_of_ble_eq_true rfl⟩ hw rfl hl.1 rfl (Nat.le_of_ble_eq_true rfl) dX10_mostAround_52 ⟨Nat.le_of_ble_eq_true rfl, Nat.le_of_ble_eq_true rfl⟩) hw rfl (Nat.le_of_ble_eq_true rfl) (Nat.le_of_ble_eq_true rfl) (fun H locs hw => ?_)
          refine W.eq (g2 := F0 m 55 ls [.int z18]) rfl ?_
          have hw : w_W G M13 r s H locs := hw
          refine lv_istore_n (lv' := [(2, .int z18), (0, .ref this), (1, .int a0), (3, .int x3)]) hx hb dX10_mostAround_55 rfl hl (by decide) rfl (fun ls hl => ?_)
          refine lv_iinc (v := x3 + 1) (lv' := [(3, .int (x3 + 1)), (2, .int z18), (0, .ref this), (1, .int a0)]) hx hb dX10_mostAround_56 hl (k := 3) rfl rfl (by decide) rfl (fun ls hl => ?_)
          refine lv_goto (tgt := 4) hx hb dX10_mostAround_59 (by decide) ?_
          exact ih z18 (x3 + 1) M13 _ _ _ hw (lv_sub hl [2, 3, 1, 0] rfl)
  unfold f_Years_mostAround
  refine lv_iconst (v := 0) hx hb dX10_mostAround_0 (by decide) ?_
  refine lv_istore_n (lv' := [(2, .int 0), (0, .ref this), (1, .int a0)]) hx hb dX10_mostAround_1 rfl hl (by decide) rfl (fun ls hl => ?_)
  refine lv_iconst (v := 0) hx hb dX10_mostAround_2 (by decide) ?_
  refine lv_istore_n (lv' := [(3, .int 0), (2, .int 0), (0, .ref this), (1, .int a0)]) hx hb dX10_mostAround_3 rfl hl (by decide) rfl (fun ls hl => ?_)
  exact w4  N 0 0 M _ _ _ hw (lv_sub hl [2, 3, 1, 0] rfl)
set_option maxHeartbeats 4000000 in
set_option maxRecDepth 100000 in
theorem t_Years_passYear (l : Launch) (hfl : l.stackTraces = false) (G : wG) (N : Nat) (this : Nat) (M : Mem) (r : Rho) : Ctr l yX10_passYear (wWs yX10_passYear cX10_passYear 3 (some .boolean)) rm_Years_passYear rm_Years_passYear.cells rm_Years_passYear.slots G [.ref this] M r ((f_Years_passYear N this M).map (fun z => (.inl (some (.int z.1)), z.2, r))) := by
  refine Ctr.ofF (own := "CheekTown$Years") (by decide +kernel) hfl rfl (Nat.le_of_ble_eq_true rfl) (fun p e s m args below meth c E hno hr hnm hw ls hl => ?_)
  obtain ⟨hx, hb, hts, hown, hml, hTT, -⟩ := id E
  have hl : lv_has ls 3 [(0, .ref this)] := hl
  obtain ⟨H, hH⟩ : ∃ H, H = s.heap := ⟨_, rfl⟩
  obtain ⟨locs, hlo⟩ : ∃ L : List Loc, L = [] := ⟨_, rfl⟩
  rw [← hH, ← hlo]
  rw [← hlo] at hw
  replace hw : w_W G M r s H locs := by rw [hH]; exact hw
  have w44 : ∀ (k4 : Int32 → Int32 → Mem → Option (Int32 × Mem)) (hk4 : ∀ (x1 : Int32) (x2 : Int32) (M : Mem) (H : Heap) (locs : List Loc) (ls : Array Slot), w_W G M r s H locs → lv_has ls 3 [(0, .ref this), (1, .int x1), (2, .int x2)] → W p l e rm_Years_passYear s m args below meth c H locs 0 0 (PQ G below args s rm_Years_passYear.cells rm_Years_passYear.slots (fun z => (.inl (some (.int z.1)), z.2, r)) (k4 x1 x2 M)) (F0 m 4 ls [])) (x2 : Int32) (y0 : Int32) (y1 : Int32) (M : Mem) (H : Heap) (locs : List Loc) (ls : Array Slot), w_W G M r s H locs → lv_has ls 3 [(0, .ref this), (2, .int x2)] → W p l e rm_Years_passYear s m args below meth c H locs 0 0 (PQ G below args s rm_Years_passYear.cells rm_Years_passYear.slots (fun z => (.inl (some (.int z.1)), z.2, r)) (f_Years_passYear_44 N this k4 x2 y0 y1 M)) (F0 m 44 ls [.int y1, .int y0]) := by
    intro k4 hk4 x2 y0 y1 M H locs ls hw hl
    unfold f_Years_passYear_44
    refine lv_ior hx hb dX10_passYear_44 ?_
    refine lv_istore_n (lv' := [(1, .int (y0 ||| y1)), (0, .ref this), (2, .int x2)]) hx hb dX10_passYear_45 rfl hl (by decide) rfl (fun ls hl => ?_)
    refine lv_iinc (v := x2 + 1) (lv' := [(2, .int (x2 + 1)), (1, .int (y0 ||| y1)), (0, .ref this)]) hx hb dX10_passYear_46 hl (k := 2) rfl rfl (by decide) rfl (fun ls hl => ?_)
    refine lv_goto (tgt := 4) hx hb dX10_passYear_49 (by decide) ?_
    exact hk4 (y0 ||| y1) (x2 + 1) M _ _ _ hw (lv_sub hl [2, 1, 0] rfl)
  have w4 : ∀ (n : Nat) (x1 : Int32) (x2 : Int32) (M : Mem) (H : Heap) (locs : List Loc) (ls : Array Slot), w_W G M r s H locs → lv_has ls 3 [(0, .ref this), (1, .int x1), (2, .int x2)] → W p l e rm_Years_passYear s m args below meth c H locs 0 0 (PQ G below args s rm_Years_passYear.cells rm_Years_passYear.slots (fun z => (.inl (some (.int z.1)), z.2, r)) (f_Years_passYear_4 N this n x1 x2 M)) (F0 m 4 ls []) := by
    intro n
    induction n with
    | zero => intros; exact W_none
    | succ n ih =>
      intro x1 x2 M H locs ls hw hl
      rw [f_Years_passYear_4]
      refine lv_iload_n hx hb dX10_passYear_4 rfl (lv_at hl 2 rfl) ?_
      refine lv_aload_n hx hb dX10_passYear_5 rfl (lv_at hl 0 rfl) ?_
      refine gx_getI E hw kF_Years_33_9 (by decide) dX10_passYear_6 (fun v1 _ => ?_)
      refine cx_icmp_ge (tgt := 52) E dX10_passYear_9 (by decide) (fun _ => ?_) (fun _ => ?_)
      · refine lv_aload_n hx hb dX10_passYear_52 rfl (lv_at hl 0 rfl) ?_
        refine gx_getR E hw kF_Years_18_9 (by decide) dX10_passYear_53 (fun v2 _ => ?_)
        refine lv_astore_n (lv' := [(2, .ref v2), (0, .ref this), (1, .int x1)]) hx hb dX10_passYear_56 rfl hl (by decide) rfl (fun ls hl => ?_)
        refine lv_aload_n hx hb dX10_passYear_57 rfl (lv_at hl 1 rfl) ?_
        refine lv_aload_n hx hb dX10_passYear_58 rfl (lv_at hl 1 rfl) ?_
        refine gx_getR E hw kF_Years_15_9 (by decide) dX10_passYear_59 (fun v3 _ => ?_)
        refine gx_putR E hw kF_Years_18_9 kT_9_3 rfl rfl (by decide) dX10_passYear_62 (fun M4 H locs _ hw => ?_)
        refine lv_aload_n hx hb dX10_passYear_65 rfl (lv_at hl 1 rfl) ?_
        refine lv_aload_n hx hb dX10_passYear_66 rfl (lv_at hl 1 rfl) ?_
        refine gx_getR E hw kF_Years_21_9 (by decide) dX10_passYear_67 (fun v5 _ => ?_)
        refine gx_putR E hw kF_Years_15_9 kT_9_2 rfl rfl (by decide) dX10_passYear_70 (fun M6 H locs _ hw => ?_)
        refine lv_aload_n hx hb dX10_passYear_73 rfl (lv_at hl 1 rfl) ?_
        refine lv_aload_n hx hb dX10_passYear_74 rfl (lv_at hl 0 rfl) ?_
        refine gx_putR E hw kF_Years_21_9 kT_9_4 rfl rfl (by decide) dX10_passYear_75 (fun M7 H locs _ hw => ?_)
        refine lv_iload_n hx hb dX10_passYear_78 rfl (lv_at hl 2 rfl) ?_
        refine W_bind fun z8 hz => ?_
        obtain ⟨rfl, hz0⟩ := zg_ok hz
        exact p_zret E hw hr hz0 (Nat.le_of_ble_eq_true rfl) (Nat.le_of_ble_eq_true rfl) rfl dX10_passYear_79
      · refine lv_aload_n hx hb dX10_passYear_12 rfl (lv_at hl 0 rfl) ?_
        refine gx_getR E hw kF_Years_21_9 (by decide) dX10_passYear_13 (fun v9 _ => ?_)
        refine lv_iload_n hx hb dX10_passYear_16 rfl (lv_at hl 2 rfl) ?_
        refine lv_aload_n hx hb dX10_passYear_17 rfl (lv_at hl 0 rfl) ?_
        refine lv_iload_n hx hb dX10_passYear_18 rfl (lv_at hl 2 rfl) ?_
        refine W_bind fun _ hck => ?_
        refine W_bind fun z10 hz => ?_
        refine w_after (cells1 := 0) (slots1 := 0) (w_runV E kV_Years_51 kc_X10_mostAround (t_Years_mostAround l hfl G N this x2 M r ((fun z => (.inl (some (.int z.1)), z.2, r)) z10) (by rw [hz]; rfl)) ⟨Nat.le_of_ble_eq_true rfl, Nat.le_of_ble_eq_true rfl⟩ hw (w_recv E hw (by decide) ⟨_, _, rfl⟩ (ck_ok hck)) rfl hl.1 rfl (Nat.le_of_ble_eq_true rfl) dX10_passYear_19 ⟨Nat.le_of_ble_eq_true rfl, Nat.le_of_ble_eq_true rfl⟩) hw rfl (Nat.le_of_ble_eq_true rfl) (Nat.le_of_ble_eq_true rfl) (fun H locs hw => ?_)
        refine W.eq (g2 := F0 m 22 ls [.int z10.1, .int x2, .ref v9]) rfl ?_
        have hw : w_W G z10.2 r s H locs := hw
        refine gx_iast E hw dX10_passYear_22 (fun M11 H locs _ hw => ?_)
        refine lv_iload_n hx hb dX10_passYear_23 rfl (lv_at hl 1 rfl) ?_
        refine lv_aload_n hx hb dX10_passYear_24 rfl (lv_at hl 0 rfl) ?_
        refine gx_getR E hw kF_Years_21_9 (by decide) dX10_passYear_25 (fun v12 _ => ?_)
        refine lv_iload_n hx hb dX10_passYear_28 rfl (lv_at hl 2 rfl) ?_
        refine gx_iald E hw dX10_passYear_29 (fun v13 _ => ?_)
        refine lv_aload_n hx hb dX10_passYear_30 rfl (lv_at hl 0 rfl) ?_
        refine gx_getR E hw kF_Years_15_9 (by decide) dX10_passYear_31 (fun v14 _ => ?_)
        refine lv_iload_n hx hb dX10_passYear_34 rfl (lv_at hl 2 rfl) ?_
        refine gx_iald E hw dX10_passYear_35 (fun v15 _ => ?_)
        refine cx_icmp_eq (tgt := 43) E dX10_passYear_36 (by decide) (fun _ => ?_) (fun _ => ?_)
        · refine lv_iconst (v := 0) hx hb dX10_passYear_43 (by decide) ?_
          exact w44 (f_Years_passYear_4 N this n) ih x2 x1 0 M11 _ _ _ hw (lv_sub hl [0, 2] rfl)
        · refine lv_iconst (v := 1) hx hb dX10_passYear_39 (by decide) ?_
          refine lv_goto (tgt := 44) hx hb dX10_passYear_40 (by decide) ?_
          exact w44 (f_Years_passYear_4 N this n) ih x2 x1 1 M11 _ _ _ hw (lv_sub hl [0, 2] rfl)
  unfold f_Years_passYear
  refine lv_iconst (v := 0) hx hb dX10_passYear_0 (by decide) ?_
  refine lv_istore_n (lv' := [(1, .int 0), (0, .ref this)]) hx hb dX10_passYear_1 rfl hl (by decide) rfl (fun ls hl => ?_)
  refine lv_iconst (v := 0) hx hb dX10_passYear_2 (by decide) ?_
  refine lv_istore_n (lv' := [(2, .int 0), (1, .int 0), (0, .ref this)]) hx hb dX10_passYear_3 rfl hl (by decide) rfl (fun ls hl => ?_)
  exact w4  N 0 0 M _ _ _ hw (lv_sub hl [2, 1, 0] rfl)
set_option maxHeartbeats 4000000 in
set_option maxRecDepth 100000 in
theorem t_CT_still (l : Launch) (hfl : l.stackTraces = false) (G : wG) (N : Nat) (this : Nat) (M : Mem) (r : Rho) : Ctr l yX11_still (wWs yX11_still cX11_still 2 (some .int)) rm_CT_still rm_CT_still.cells rm_CT_still.slots G [.ref this] M r ((f_CT_still N this M).map (fun z => (.inl (some (.int z.1)), z.2, r))) := by
  refine Ctr.ofF (own := "CheekTown") (by decide +kernel) hfl rfl (Nat.le_of_ble_eq_true rfl) (fun p e s m args below meth c E hno hr hnm hw ls hl => ?_)
  obtain ⟨hx, hb, hts, hown, hml, hTT, -⟩ := id E
  have hl : lv_has ls 2 [(0, .ref this)] := hl
  obtain ⟨H, hH⟩ : ∃ H, H = s.heap := ⟨_, rfl⟩
  obtain ⟨locs, hlo⟩ : ∃ L : List Loc, L = [] := ⟨_, rfl⟩
  rw [← hH, ← hlo]
  rw [← hlo] at hw
  replace hw : w_W G M r s H locs := by rw [hH]; exact hw
  have w13 : ∀ (n : Nat) (x1 : Int32) (M : Mem) (H : Heap) (locs : List Loc) (ls : Array Slot), w_W G M r s H locs → lv_has ls 2 [(0, .ref this), (1, .int x1)] → W p l e rm_CT_still s m args below meth c H locs 0 0 (PQ G below args s rm_CT_still.cells rm_CT_still.slots (fun z => (.inl (some (.int z.1)), z.2, r)) (f_CT_still_13 N this n x1 M)) (F0 m 13 ls []) := by
    intro n
    induction n with
    | zero => intros; exact W_none
    | succ n ih =>
      intro x1 M H locs ls hw hl
      rw [f_CT_still_13]
      refine lv_iload_n hx hb dX11_still_13 rfl (lv_at hl 1 rfl) ?_
      refine lv_bipush (v := 60) hx hb dX11_still_14 (by decide) ?_
      refine cx_icmp_gt (tgt := 37) E dX11_still_16 (by decide) (fun _ => ?_) (fun _ => ?_)
      · refine lv_iconst (v := (-1)) hx hb dX11_still_37 (by decide) ?_
        exact p_iret E hw hr (Nat.le_of_ble_eq_true rfl) (Nat.le_of_ble_eq_true rfl) rfl dX11_still_38
      · refine lv_aload_n hx hb dX11_still_19 rfl (lv_at hl 0 rfl) ?_
        refine gx_getR E hw kF_CT_37_10 (by decide) dX11_still_20 (fun v4 _ => ?_)
        refine W_bind fun _ hck => ?_
        refine W_bind fun z5 hz => ?_
        refine w_after (cells1 := 0) (slots1 := 0) (w_runV E kV_CT_359 kc_X10_passYear (t_Years_passYear l hfl G N v4 M r ((fun z => (.inl (some (.int z.1)), z.2, r)) z5) (by rw [hz]; rfl)) ⟨Nat.le_of_ble_eq_true rfl, Nat.le_of_ble_eq_true rfl⟩ hw (w_recv E hw (by decide) ⟨_, _, rfl⟩ (ck_ok hck)) rfl hl.1 rfl (Nat.le_of_ble_eq_true rfl) dX11_still_23 ⟨Nat.le_of_ble_eq_true rfl, Nat.le_of_ble_eq_true rfl⟩) hw rfl (Nat.le_of_ble_eq_true rfl) (Nat.le_of_ble_eq_true rfl) (fun H locs hw => ?_)
        refine W.eq (g2 := F0 m 26 ls [.int z5.1]) rfl ?_
        have hw : w_W G z5.2 r s H locs := hw
        refine cx_if_ne (tgt := 31) E dX11_still_26 (by decide) (fun _ => ?_) (fun _ => ?_)
        · refine lv_iinc (v := x1 + 1) (lv' := [(1, .int (x1 + 1)), (0, .ref this)]) hx hb dX11_still_31 hl (k := 1) rfl rfl (by decide) rfl (fun ls hl => ?_)
          refine lv_goto (tgt := 13) hx hb dX11_still_34 (by decide) ?_
          exact ih (x1 + 1) z5.2 _ _ _ hw (lv_sub hl [1, 0] rfl)
        · refine lv_iload_n hx hb dX11_still_29 rfl (lv_at hl 1 rfl) ?_
          exact p_iret E hw hr (Nat.le_of_ble_eq_true rfl) (Nat.le_of_ble_eq_true rfl) rfl dX11_still_30
  unfold f_CT_still
  refine lv_aload_n hx hb dX11_still_0 rfl (lv_at hl 0 rfl) ?_
  refine gx_getR E hw kF_CT_37_10 (by decide) dX11_still_1 (fun v1 _ => ?_)
  refine lv_aload_n hx hb dX11_still_4 rfl (lv_at hl 0 rfl) ?_
  refine gx_getR E hw kF_CT_20_10 (by decide) dX11_still_5 (fun v2 _ => ?_)
  refine W_bind fun _ hck => ?_
  refine W_bind fun z3 hz => ?_
  refine w_after (cells1 := 0) (slots1 := 0) (w_runV E kV_CT_341 kc_X10_startFrom (t_Years_startFrom l hfl G N v1 v2 M r ((fun z => (.inl none, z, r)) z3) (by rw [hz]; rfl)) ⟨Nat.le_of_ble_eq_true rfl, Nat.le_of_ble_eq_true rfl⟩ hw (w_recv E hw (by decide) ⟨_, _, rfl⟩ (ck_ok hck)) rfl hl.1 rfl (Nat.le_of_ble_eq_true rfl) dX11_still_8 ⟨Nat.le_of_ble_eq_true rfl, Nat.le_of_ble_eq_true rfl⟩) hw rfl (Nat.le_of_ble_eq_true rfl) (Nat.le_of_ble_eq_true rfl) (fun H locs hw => ?_)
  refine W.eq (g2 := F0 m 11 ls []) rfl ?_
  have hw : w_W G z3 r s H locs := hw
  refine lv_iconst (v := 0) hx hb dX11_still_11 (by decide) ?_
  refine lv_istore_n (lv' := [(1, .int 0), (0, .ref this)]) hx hb dX11_still_12 rfl hl (by decide) rfl (fun ls hl => ?_)
  exact w13  N 0 z3 _ _ _ hw (lv_sub hl [1, 0] rfl)
set_option maxHeartbeats 4000000 in
set_option maxRecDepth 100000 in
theorem t_Math_floorMod (l : Launch) (hfl : l.stackTraces = false) (G : wG) (a0 : Int32) (a1 : Int32) (M : Mem) (r : Rho) : Ctr l yJ9_floorMod_7cf53 (wWs yJ9_floorMod_7cf53 cJ9_floorMod_7cf53 3 (some .int)) rm_Math_floorMod rm_Math_floorMod.cells rm_Math_floorMod.slots G [.int a0, .int a1] M r ((f_Math_floorMod a0 a1).map (fun z => (.inl (some (.int z)), M, r))) := by
  refine Ctr.ofF (own := "java/lang/Math") (by decide +kernel) hfl rfl (Nat.le_of_ble_eq_true rfl) (fun p e s m args below meth c E hno hr hnm hw ls hl => ?_)
  obtain ⟨hx, hb, hts, hown, hml, hTT, -⟩ := id E
  have hl : lv_has ls 3 [(0, .int a0), (1, .int a1)] := hl
  obtain ⟨H, hH⟩ : ∃ H, H = s.heap := ⟨_, rfl⟩
  obtain ⟨locs, hlo⟩ : ∃ L : List Loc, L = [] := ⟨_, rfl⟩
  rw [← hH, ← hlo]
  rw [← hlo] at hw
  replace hw : w_W G M r s H locs := by rw [hH]; exact hw
  unfold f_Math_floorMod
  refine lv_iload_n hx hb dJ9_floorMod_7cf53_0 rfl (lv_at hl 0 rfl) ?_
  refine lv_iload_n hx hb dJ9_floorMod_7cf53_1 rfl (lv_at hl 1 rfl) ?_
  refine W_bind fun _ hnz => ?_
  refine lv_irem hx hb dJ9_floorMod_7cf53_2 (nz_ok hnz) ?_
  refine lv_istore_n (lv' := [(2, .int (a0 - a0 / a1 * a1)), (0, .int a0), (1, .int a1)]) hx hb dJ9_floorMod_7cf53_3 rfl hl (by decide) rfl (fun ls hl => ?_)
  refine lv_iload_n hx hb dJ9_floorMod_7cf53_4 rfl (lv_at hl 1 rfl) ?_
  refine lv_iload_n hx hb dJ9_floorMod_7cf53_5 rfl (lv_at hl 2 rfl) ?_
  refine lv_ixor hx hb dJ9_floorMod_7cf53_6 ?_
  refine cx_if_ge (tgt := 18) E dJ9_floorMod_7cf53_7 (by decide) (fun _ => ?_) (fun _ => ?_)
  · refine lv_iload_n hx hb dJ9_floorMod_7cf53_18 rfl (lv_at hl 0 rfl) ?_
    exact p_iret E hw hr (Nat.le_of_ble_eq_true rfl) (Nat.le_of_ble_eq_true rfl) rfl dJ9_floorMod_7cf53_19
  · refine lv_iload_n hx hb dJ9_floorMod_7cf53_10 rfl (lv_at hl 0 rfl) ?_
    refine cx_if_eq (tgt := 18) E dJ9_floorMod_7cf53_11 (by decide) (fun _ => ?_) (fun _ => ?_)
    · refine lv_iload_n hx hb dJ9_floorMod_7cf53_18 rfl (lv_at hl 0 rfl) ?_
      exact p_iret E hw hr (Nat.le_of_ble_eq_true rfl) (Nat.le_of_ble_eq_true rfl) rfl dJ9_floorMod_7cf53_19
    · refine lv_iload_n hx hb dJ9_floorMod_7cf53_14 rfl (lv_at hl 0 rfl) ?_
      refine lv_iload_n hx hb dJ9_floorMod_7cf53_15 rfl (lv_at hl 2 rfl) ?_
      refine lv_iadd hx hb dJ9_floorMod_7cf53_16 ?_
      exact p_iret E hw hr (Nat.le_of_ble_eq_true rfl) (Nat.le_of_ble_eq_true rfl) rfl dJ9_floorMod_7cf53_17
set_option maxHeartbeats 4000000 in
set_option maxRecDepth 100000 in
theorem t_Log_cellOf (l : Launch) (hfl : l.stackTraces = false) (G : wG) (this : Nat) (a0 : Int32) (a1 : Int32) (M : Mem) (r : Rho) : Ctr l yX3_cellOf (wWs yX3_cellOf cX3_cellOf 4 (some .int)) rm_Log_cellOf rm_Log_cellOf.cells rm_Log_cellOf.slots G [.ref this, .int a0, .int a1] M r ((f_Log_cellOf this a0 a1 M).map (fun z => (.inl (some (.int z)), M, r))) := by
  refine Ctr.ofF (own := "CheekTown$Log") (by decide +kernel) hfl rfl (Nat.le_of_ble_eq_true rfl) (fun p e s m args below meth c E hno hr hnm hw ls hl => ?_)
  obtain ⟨hx, hb, hts, hown, hml, hTT, -⟩ := id E
  have hl : lv_has ls 4 [(0, .ref this), (1, .int a0), (2, .int a1)] := hl
  obtain ⟨H, hH⟩ : ∃ H, H = s.heap := ⟨_, rfl⟩
  obtain ⟨locs, hlo⟩ : ∃ L : List Loc, L = [] := ⟨_, rfl⟩
  rw [← hH, ← hlo]
  rw [← hlo] at hw
  replace hw : w_W G M r s H locs := by rw [hH]; exact hw
  unfold f_Log_cellOf
  refine lv_iload_n hx hb dX3_cellOf_0 rfl (lv_at hl 1 rfl) ?_
  refine cx_if_lt (tgt := 12) E dX3_cellOf_1 (by decide) (fun _ => ?_) (fun _ => ?_)
  · refine lv_iconst (v := (-1)) hx hb dX3_cellOf_12 (by decide) ?_
    exact p_iret E hw hr (Nat.le_of_ble_eq_true rfl) (Nat.le_of_ble_eq_true rfl) rfl dX3_cellOf_13
  · refine lv_iload_n hx hb dX3_cellOf_4 rfl (lv_at hl 1 rfl) ?_
    refine lv_aload_n hx hb dX3_cellOf_5 rfl (lv_at hl 0 rfl) ?_
    refine gx_getI E hw kF_Log_15_3 (by decide) dX3_cellOf_6 (fun v1 _ => ?_)
    refine cx_icmp_lt (tgt := 14) E dX3_cellOf_9 (by decide) (fun _ => ?_) (fun _ => ?_)
    · refine lv_aload_n hx hb dX3_cellOf_14 rfl (lv_at hl 0 rfl) ?_
      refine gx_getI E hw kF_Log_19_3 (by decide) dX3_cellOf_15 (fun v2 _ => ?_)
      refine lv_iload_n hx hb dX3_cellOf_18 rfl (lv_at hl 1 rfl) ?_
      refine lv_isub hx hb dX3_cellOf_19 ?_
      refine lv_bipush (v := 60) hx hb dX3_cellOf_20 (by decide) ?_
      refine W_bind fun z3 hz => ?_
      refine w_after (cells1 := 0) (slots1 := 0) (w_runS E kS_Log_34 kc_J9_floorMod_7cf53 (t_Math_floorMod l hfl G (v2 - a0) 60 M r ((fun z => (.inl (some (.int z)), M, r)) z3) (by rw [hz]; rfl)) ⟨Nat.le_of_ble_eq_true rfl, Nat.le_of_ble_eq_true rfl⟩ hw rfl hl.1 rfl (Nat.le_of_ble_eq_true rfl) dX3_cellOf_22 ⟨Nat.le_of_ble_eq_true rfl, Nat.le_of_ble_eq_true rfl⟩) hw rfl (Nat.le_of_ble_eq_true rfl) (Nat.le_of_ble_eq_true rfl) (fun H locs hw => ?_)
      refine W.eq (g2 := F0 m 25 ls [.int z3]) rfl ?_
      have hw : w_W G M r s H locs := hw
      refine lv_istore_n (lv' := [(3, .int z3), (0, .ref this), (1, .int a0), (2, .int a1)]) hx hb dX3_cellOf_25 rfl hl (by decide) rfl (fun ls hl => ?_)
      refine lv_aload_n hx hb dX3_cellOf_26 rfl (lv_at hl 1 rfl) ?_
      refine gx_getR E hw kF_Log_11_3 (by decide) dX3_cellOf_27 (fun v4 _ => ?_)
      refine lv_iload_n hx hb dX3_cellOf_30 rfl (lv_at hl 0 rfl) ?_
      refine lv_bipush (v := 8) hx hb dX3_cellOf_31 (by decide) ?_
      refine lv_imul hx hb dX3_cellOf_33 ?_
      refine lv_iload_n hx hb dX3_cellOf_34 rfl (lv_at hl 3 rfl) ?_
      refine lv_iadd hx hb dX3_cellOf_35 ?_
      refine gx_iald E hw dX3_cellOf_36 (fun v5 _ => ?_)
      exact p_iret E hw hr (Nat.le_of_ble_eq_true rfl) (Nat.le_of_ble_eq_true rfl) rfl dX3_cellOf_37
    · refine lv_iconst (v := (-1)) hx hb dX3_cellOf_12 (by decide) ?_
      exact p_iret E hw hr (Nat.le_of_ble_eq_true rfl) (Nat.le_of_ble_eq_true rfl) rfl dX3_cellOf_13
set_option maxHeartbeats 4000000 in
set_option maxRecDepth 100000 in
theorem t_Log_timeBefore (l : Launch) (hfl : l.stackTraces = false) (G : wG) (N : Nat) (this : Nat) (a0 : Int32) (M : Mem) (r : Rho) : Ctr l yX3_timeBefore (wWs yX3_timeBefore cX3_timeBefore 3 (some .int)) rm_Log_timeBefore rm_Log_timeBefore.cells rm_Log_timeBefore.slots G [.ref this, .int a0] M r ((f_Log_timeBefore N this a0 M).map (fun z => (.inl (some (.int z)), M, r))) := by
  refine Ctr.ofF (own := "CheekTown$Log") (by decide +kernel) hfl rfl (Nat.le_of_ble_eq_true rfl) (fun p e s m args below meth c E hno hr hnm hw ls hl => ?_)
  obtain ⟨hx, hb, hts, hown, hml, hTT, -⟩ := id E
  have hl : lv_has ls 3 [(0, .ref this), (1, .int a0)] := hl
  obtain ⟨H, hH⟩ : ∃ H, H = s.heap := ⟨_, rfl⟩
  obtain ⟨locs, hlo⟩ : ∃ L : List Loc, L = [] := ⟨_, rfl⟩
  rw [← hH, ← hlo]
  rw [← hlo] at hw
  replace hw : w_W G M r s H locs := by rw [hH]; exact hw
  have w4 : ∀ (n : Nat) (x2 : Int32) (H : Heap) (locs : List Loc) (ls : Array Slot), w_W G M r s H locs → lv_has ls 3 [(0, .ref this), (1, .int a0), (2, .int x2)] → W p l e rm_Log_timeBefore s m args below meth c H locs 0 0 (PQ G below args s rm_Log_timeBefore.cells rm_Log_timeBefore.slots (fun z => (.inl (some (.int z)), M, r)) (f_Log_timeBefore_4 N this a0 M n x2)) (F0 m 4 ls []) := by
    intro n
    induction n with
    | zero => intros; exact W_none
    | succ n ih =>
      intro x2 H locs ls hw hl
      rw [f_Log_timeBefore_4]
      refine lv_iload_n hx hb dX3_timeBefore_4 rfl (lv_at hl 2 rfl) ?_
      refine lv_aload_n hx hb dX3_timeBefore_5 rfl (lv_at hl 0 rfl) ?_
      refine gx_getI E hw kF_Log_15_3 (by decide) dX3_timeBefore_6 (fun v1 _ => ?_)
      refine cx_icmp_ge (tgt := 50) E dX3_timeBefore_9 (by decide) (fun _ => ?_) (fun _ => ?_)
      · refine lv_iconst (v := (-1)) hx hb dX3_timeBefore_50 (by decide) ?_
        exact p_iret E hw hr (Nat.le_of_ble_eq_true rfl) (Nat.le_of_ble_eq_true rfl) rfl dX3_timeBefore_51
      · refine lv_aload_n hx hb dX3_timeBefore_12 rfl (lv_at hl 0 rfl) ?_
        refine lv_iload_n hx hb dX3_timeBefore_13 rfl (lv_at hl 2 rfl) ?_
        refine lv_iconst (v := 1) hx hb dX3_timeBefore_14 (by decide) ?_
        refine W_bind fun _ hck => ?_
        refine W_bind fun z2 hz => ?_
        refine w_after (cells1 := 0) (slots1 := 0) (w_runV E kV_Log_37 kc_X3_cellOf (t_Log_cellOf l hfl G this x2 1 M r ((fun z => (.inl (some (.int z)), M, r)) z2) (by rw [hz]; rfl)) ⟨Nat.le_of_ble_eq_true rfl, Nat.le_of_ble_eq_true rfl⟩ hw (w_recv E hw (by decide) ⟨_, _, rfl⟩ (ck_ok hck)) rfl hl.1 rfl (Nat.le_of_ble_eq_true rfl) dX3_timeBefore_15 ⟨Nat.le_of_ble_eq_true rfl, Nat.le_of_ble_eq_true rfl⟩) hw rfl (Nat.le_of_ble_eq_true rfl) (Nat.le_of_ble_eq_true rfl) (fun H locs hw => ?_)
        refine W.eq (g2 := F0 m 18 ls [.int z2]) rfl ?_
        have hw : w_W G M r s H locs := hw
        refine lv_aload_n hx hb dX3_timeBefore_18 rfl (lv_at hl 0 rfl) ?_
        refine lv_iload_n hx hb dX3_timeBefore_19 rfl (lv_at hl 1 rfl) ?_
        refine lv_iconst (v := 1) hx hb dX3_timeBefore_20 (by decide) ?_
        refine W_bind fun _ hck => ?_
        refine W_bind fun z3 hz => ?_
        refine w_after (cells1 := 0) (slots1 := 0) (w_runV E kV_Log_37 kc_X3_cellOf (t_Log_cellOf l hfl G this a0 1 M r ((fun z => (.inl (some (.int z)), M, r)) z3) (by rw [hz]; rfl)) ⟨Nat.le_of_ble_eq_true rfl, Nat.le_of_ble_eq_true rfl⟩ hw (w_recv E hw (by decide) ⟨_, _, rfl⟩ (ck_ok hck)) rfl hl.1 rfl (Nat.le_of_ble_eq_true rfl) dX3_timeBefore_21 ⟨Nat.le_of_ble_eq_true rfl, Nat.le_of_ble_eq_true rfl⟩) hw rfl (Nat.le_of_ble_eq_true rfl) (Nat.le_of_ble_eq_true rfl) (fun H locs hw => ?_)
        refine W.eq (g2 := F0 m 24 ls [.int z3, .int z2]) rfl ?_
        have hw : w_W G M r s H locs := hw
        refine cx_icmp_ne (tgt := 44) E dX3_timeBefore_24 (by decide) (fun _ => ?_) (fun _ => ?_)
        · refine lv_iinc (v := x2 + 1) (lv' := [(2, .int (x2 + 1)), (0, .ref this), (1, .int a0)]) hx hb dX3_timeBefore_44 hl (k := 2) rfl rfl (by decide) rfl (fun ls hl => ?_)
          refine lv_goto (tgt := 4) hx hb dX3_timeBefore_47 (by decide) ?_
          exact ih (x2 + 1) _ _ _ hw (lv_sub hl [1, 2, 0] rfl)
        · refine lv_aload_n hx hb dX3_timeBefore_27 rfl (lv_at hl 0 rfl) ?_
          refine lv_iload_n hx hb dX3_timeBefore_28 rfl (lv_at hl 2 rfl) ?_
          refine lv_iconst (v := 2) hx hb dX3_timeBefore_29 (by decide) ?_
          refine W_bind fun _ hck => ?_
          refine W_bind fun z4 hz => ?_
          refine w_after (cells1 := 0) (slots1 := 0) (w_runV E kV_Log_37 kc_X3_cellOf (t_Log_cellOf l hfl G this x2 2 M r ((fun z => (.inl (some (.int z)), M, r)) z4) (by rw [hz]; rfl)) ⟨Nat.le_of_ble_eq_true rfl, Nat.le_of_ble_eq_true rfl⟩ hw (w_recv E hw (by decide) ⟨_, _, rfl⟩ (ck_ok hck)) rfl hl.1 rfl (Nat.le_of_ble_eq_true rfl) dX3_timeBefore_30 ⟨Nat.le_of_ble_eq_true rfl, Nat.le_of_ble_eq_true rfl⟩) hw rfl (Nat.le_of_ble_eq_true rfl) (Nat.le_of_ble_eq_true rfl) (fun H locs hw => ?_)
          refine W.eq (g2 := F0 m 33 ls [.int z4]) rfl ?_
          have hw : w_W G M r s H locs := hw
          refine lv_aload_n hx hb dX3_timeBefore_33 rfl (lv_at hl 0 rfl) ?_
          refine lv_iload_n hx hb dX3_timeBefore_34 rfl (lv_at hl 1 rfl) ?_
          refine lv_iconst (v := 2) hx hb dX3_timeBefore_35 (by decide) ?_
          refine W_bind fun _ hck => ?_
          refine W_bind fun z5 hz => ?_
          refine w_after (cells1 := 0) (slots1 := 0) (w_runV E kV_Log_37 kc_X3_cellOf (t_Log_cellOf l hfl G this a0 2 M r ((fun z => (.inl (some (.int z)), M, r)) z5) (by rw [hz]; rfl)) ⟨Nat.le_of_ble_eq_true rfl, Nat.le_of_ble_eq_true rfl⟩ hw (w_recv E hw (by decide) ⟨_, _, rfl⟩ (ck_ok hck)) rfl hl.1 rfl (Nat.le_of_ble_eq_true rfl) dX3_timeBefore_36 ⟨Nat.le_of_ble_eq_true rfl, Nat.le_of_ble_eq_true rfl⟩) hw rfl (Nat.le_of_ble_eq_true rfl) (Nat.le_of_ble_eq_true rfl) (fun H locs hw => ?_)
          refine W.eq (g2 := F0 m 39 ls [.int z5, .int z4]) rfl ?_
          have hw : w_W G M r s H locs := hw
          refine cx_icmp_ne (tgt := 44) E dX3_timeBefore_39 (by decide) (fun _ => ?_) (fun _ => ?_)
          · refine lv_iinc (v := x2 + 1) (lv' := [(2, .int (x2 + 1)), (0, .ref this), (1, .int a0)]) hx hb dX3_timeBefore_44 hl (k := 2) rfl rfl (by decide) rfl (fun ls hl => ?_)
            refine lv_goto (tgt := 4) hx hb dX3_timeBefore_47 (by decide) ?_
            exact ih (x2 + 1) _ _ _ hw (lv_sub hl [1, 2, 0] rfl)
          · refine lv_iload_n hx hb dX3_timeBefore_42 rfl (lv_at hl 2 rfl) ?_
            exact p_iret E hw hr (Nat.le_of_ble_eq_true rfl) (Nat.le_of_ble_eq_true rfl) rfl dX3_timeBefore_43
  unfold f_Log_timeBefore
  refine lv_iload_n hx hb dX3_timeBefore_0 rfl (lv_at hl 1 rfl) ?_
  refine lv_iconst (v := 1) hx hb dX3_timeBefore_1 (by decide) ?_
  refine lv_iadd hx hb dX3_timeBefore_2 ?_
  refine lv_istore_n (lv' := [(2, .int (a0 + 1)), (0, .ref this), (1, .int a0)]) hx hb dX3_timeBefore_3 rfl hl (by decide) rfl (fun ls hl => ?_)
  exact w4  N (a0 + 1) _ _ _ hw (lv_sub hl [1, 2, 0] rfl)
set_option maxHeartbeats 4000000 in
set_option maxRecDepth 100000 in
theorem t_Log_beganUnlike (l : Launch) (hfl : l.stackTraces = false) (G : wG) (this : Nat) (a0 : Int32) (a1 : Int32) (a2 : Int32) (M : Mem) (r : Rho) : Ctr l yX3_beganUnlike (wWs yX3_beganUnlike cX3_beganUnlike 4 (some .boolean)) rm_Log_beganUnlike rm_Log_beganUnlike.cells rm_Log_beganUnlike.slots G [.ref this, .int a0, .int a1, .int a2] M r ((f_Log_beganUnlike this a0 a1 a2 M).map (fun z => (.inl (some (.int z)), M, r))) := by
  refine Ctr.ofF (own := "CheekTown$Log") (by decide +kernel) hfl rfl (Nat.le_of_ble_eq_true rfl) (fun p e s m args below meth c E hno hr hnm hw ls hl => ?_)
  obtain ⟨hx, hb, hts, hown, hml, hTT, -⟩ := id E
  have hl : lv_has ls 4 [(0, .ref this), (1, .int a0), (2, .int a1), (3, .int a2)] := hl
  obtain ⟨H, hH⟩ : ∃ H, H = s.heap := ⟨_, rfl⟩
  obtain ⟨locs, hlo⟩ : ∃ L : List Loc, L = [] := ⟨_, rfl⟩
  rw [← hH, ← hlo]
  rw [← hlo] at hw
  replace hw : w_W G M r s H locs := by rw [hH]; exact hw
  unfold f_Log_beganUnlike
  refine lv_iload_n hx hb dX3_beganUnlike_0 rfl (lv_at hl 2 rfl) ?_
  refine lv_iconst (v := (-1)) hx hb dX3_beganUnlike_1 (by decide) ?_
  refine cx_icmp_eq (tgt := 24) E dX3_beganUnlike_2 (by decide) (fun _ => ?_) (fun _ => ?_)
  · refine lv_iconst (v := 0) hx hb dX3_beganUnlike_24 (by decide) ?_
    exact p_zret E hw hr (by decide) (Nat.le_of_ble_eq_true rfl) (Nat.le_of_ble_eq_true rfl) rfl dX3_beganUnlike_25
  · refine lv_aload_n hx hb dX3_beganUnlike_5 rfl (lv_at hl 0 rfl) ?_
    refine lv_iload_n hx hb dX3_beganUnlike_6 rfl (lv_at hl 1 rfl) ?_
    refine lv_iload_n hx hb dX3_beganUnlike_7 rfl (lv_at hl 3 rfl) ?_
    refine W_bind fun _ hck => ?_
    refine W_bind fun z1 hz => ?_
    refine w_after (cells1 := 0) (slots1 := 0) (w_runV E kV_Log_37 kc_X3_cellOf (t_Log_cellOf l hfl G this a0 a2 M r ((fun z => (.inl (some (.int z)), M, r)) z1) (by rw [hz]; rfl)) ⟨Nat.le_of_ble_eq_true rfl, Nat.le_of_ble_eq_true rfl⟩ hw (w_recv E hw (by decide) ⟨_, _, rfl⟩ (ck_ok hck)) rfl hl.1 rfl (Nat.le_of_ble_eq_true rfl) dX3_beganUnlike_8 ⟨Nat.le_of_ble_eq_true rfl, Nat.le_of_ble_eq_true rfl⟩) hw rfl (Nat.le_of_ble_eq_true rfl) (Nat.le_of_ble_eq_true rfl) (fun H locs hw => ?_)
    refine W.eq (g2 := F0 m 11 ls [.int z1]) rfl ?_
    have hw : w_W G M r s H locs := hw
    refine lv_aload_n hx hb dX3_beganUnlike_11 rfl (lv_at hl 0 rfl) ?_
    refine lv_iload_n hx hb dX3_beganUnlike_12 rfl (lv_at hl 2 rfl) ?_
    refine lv_iload_n hx hb dX3_beganUnlike_13 rfl (lv_at hl 3 rfl) ?_
    refine W_bind fun _ hck => ?_
    refine W_bind fun z2 hz => ?_
    refine w_after (cells1 := 0) (slots1 := 0) (w_runV E kV_Log_37 kc_X3_cellOf (t_Log_cellOf l hfl G this a1 a2 M r ((fun z => (.inl (some (.int z)), M, r)) z2) (by rw [hz]; rfl)) ⟨Nat.le_of_ble_eq_true rfl, Nat.le_of_ble_eq_true rfl⟩ hw (w_recv E hw (by decide) ⟨_, _, rfl⟩ (ck_ok hck)) rfl hl.1 rfl (Nat.le_of_ble_eq_true rfl) dX3_beganUnlike_14 ⟨Nat.le_of_ble_eq_true rfl, Nat.le_of_ble_eq_true rfl⟩) hw rfl (Nat.le_of_ble_eq_true rfl) (Nat.le_of_ble_eq_true rfl) (fun H locs hw => ?_)
    refine W.eq (g2 := F0 m 17 ls [.int z2, .int z1]) rfl ?_
    have hw : w_W G M r s H locs := hw
    refine cx_icmp_eq (tgt := 24) E dX3_beganUnlike_17 (by decide) (fun _ => ?_) (fun _ => ?_)
    · refine lv_iconst (v := 0) hx hb dX3_beganUnlike_24 (by decide) ?_
      exact p_zret E hw hr (by decide) (Nat.le_of_ble_eq_true rfl) (Nat.le_of_ble_eq_true rfl) rfl dX3_beganUnlike_25
    · refine lv_iconst (v := 1) hx hb dX3_beganUnlike_20 (by decide) ?_
      refine lv_goto (tgt := 25) hx hb dX3_beganUnlike_21 (by decide) ?_
      exact p_zret E hw hr (by decide) (Nat.le_of_ble_eq_true rfl) (Nat.le_of_ble_eq_true rfl) rfl dX3_beganUnlike_25
set_option maxHeartbeats 4000000 in
set_option maxRecDepth 100000 in
theorem t_CT_changed (l : Launch) (hfl : l.stackTraces = false) (G : wG) (N : Nat) (this : Nat) (a0 : Int32) (M : Mem) (r : Rho) : Ctr l yX11_changed (wWs yX11_changed cX11_changed 6 (some .int)) rm_CT_changed rm_CT_changed.cells rm_CT_changed.slots G [.ref this, .int a0] M r ((f_CT_changed N this a0 M).map (fun z => (.inl (some (.int z)), M, r))) := by
  refine Ctr.ofF (own := "CheekTown") (by decide +kernel) hfl rfl (Nat.le_of_ble_eq_true rfl) (fun p e s m args below meth c E hno hr hnm hw ls hl => ?_)
  obtain ⟨hx, hb, hts, hown, hml, hTT, -⟩ := id E
  have hl : lv_has ls 6 [(0, .ref this), (1, .int a0)] := hl
  obtain ⟨H, hH⟩ : ∃ H, H = s.heap := ⟨_, rfl⟩
  obtain ⟨locs, hlo⟩ : ∃ L : List Loc, L = [] := ⟨_, rfl⟩
  rw [← hH, ← hlo]
  rw [← hlo] at hw
  replace hw : w_W G M r s H locs := by rw [hH]; exact hw
  have w75 : ∀ (k7 : Int32 → Int32 → Int32 → Option (Int32)) (hk7 : ∀ (x2 : Int32) (x3 : Int32) (x4 : Int32) (H : Heap) (locs : List Loc) (ls : Array Slot), w_W G M r s H locs → lv_has ls 6 [(0, .ref this), (1, .int a0), (2, .int x2), (3, .int x3), (4, .int x4)] → W p l e rm_CT_changed s m args below meth c H locs 0 0 (PQ G below args s rm_CT_changed.cells rm_CT_changed.slots (fun z => (.inl (some (.int z)), M, r)) (k7 x2 x3 x4)) (F0 m 7 ls [])) (x2 : Int32) (x3 : Int32) (x4 : Int32) (x5 : Int32) (H : Heap) (locs : List Loc) (ls : Array Slot), w_W G M r s H locs → lv_has ls 6 [(0, .ref this), (1, .int a0), (2, .int x2), (3, .int x3), (4, .int x4), (5, .int x5)] → W p l e rm_CT_changed s m args below meth c H locs 0 0 (PQ G below args s rm_CT_changed.cells rm_CT_changed.slots (fun z => (.inl (some (.int z)), M, r)) (f_CT_changed_75 N this a0 M k7 x2 x3 x4 x5)) (F0 m 75 ls []) := by
    intro k7 hk7 x2 x3 x4 x5 H locs ls hw hl
    unfold f_CT_changed_75
    refine lv_aload_n hx hb dX11_changed_75 rfl (lv_at hl 0 rfl) ?_
    refine gx_getR E hw kF_CT_20_10 (by decide) dX11_changed_76 (fun v13 _ => ?_)
    refine gx_getR E hw kF_CT_373_7 (by decide) dX11_changed_79 (fun v14 _ => ?_)
    refine lv_iload hx hb dX11_changed_82 (lv_at hl 4 rfl) ?_
    refine lv_iload hx hb dX11_changed_84 (lv_at hl 5 rfl) ?_
    refine lv_iconst (v := 4) hx hb dX11_changed_86 (by decide) ?_
    refine W_bind fun _ hck => ?_
    refine W_bind fun z15 hz => ?_
    refine w_after (cells1 := 0) (slots1 := 0) (w_runV E kV_CT_385 kc_X3_beganUnlike (t_Log_beganUnlike l hfl G v14 x4 x5 4 M r ((fun z => (.inl (some (.int z)), M, r)) z15) (by rw [hz]; rfl)) ⟨Nat.le_of_ble_eq_true rfl, Nat.le_of_ble_eq_true rfl⟩ hw (w_recv E hw (by decide) ⟨_, _, rfl⟩ (ck_ok hck)) rfl hl.1 rfl (Nat.le_of_ble_eq_true rfl) dX11_changed_87 ⟨Nat.le_of_ble_eq_true rfl, Nat.le_of_ble_eq_true rfl⟩) hw rfl (Nat.le_of_ble_eq_true rfl) (Nat.le_of_ble_eq_true rfl) (fun H locs hw => ?_)
    refine W.eq (g2 := F0 m 90 ls [.int z15]) rfl ?_
    have hw : w_W G M r s H locs := hw
    refine cx_if_eq (tgt := 114) E dX11_changed_90 (by decide) (fun _ => ?_) (fun _ => ?_)
    · refine lv_iinc (v := x4 + 1) (lv' := [(4, .int (x4 + 1)), (0, .ref this), (1, .int a0), (2, .int x2), (3, .int x3), (5, .int x5)]) hx hb dX11_changed_114 hl (k := 4) rfl rfl (by decide) rfl (fun ls hl => ?_)
      refine lv_goto (tgt := 7) hx hb dX11_changed_117 (by decide) ?_
      exact hk7 x2 x3 (x4 + 1) _ _ _ hw (lv_sub hl [1, 2, 3, 4, 0] rfl)
    · refine lv_iload_n hx hb dX11_changed_93 rfl (lv_at hl 2 rfl) ?_
      refine lv_iconst (v := 1) hx hb dX11_changed_94 (by decide) ?_
      refine lv_aload_n hx hb dX11_changed_95 rfl (lv_at hl 0 rfl) ?_
      refine gx_getR E hw kF_CT_20_10 (by decide) dX11_changed_96 (fun v16 _ => ?_)
      refine gx_getR E hw kF_CT_373_7 (by decide) dX11_changed_99 (fun v17 _ => ?_)
      refine lv_iload hx hb dX11_changed_102 (lv_at hl 4 rfl) ?_
      refine lv_iconst (v := 2) hx hb dX11_changed_104 (by decide) ?_
      refine W_bind fun _ hck => ?_
      refine W_bind fun z18 hz => ?_
      refine w_after (cells1 := 0) (slots1 := 0) (w_runV E kV_CT_388 kc_X3_cellOf (t_Log_cellOf l hfl G v17 x4 2 M r ((fun z => (.inl (some (.int z)), M, r)) z18) (by rw [hz]; rfl)) ⟨Nat.le_of_ble_eq_true rfl, Nat.le_of_ble_eq_true rfl⟩ hw (w_recv E hw (by decide) ⟨_, _, rfl⟩ (ck_ok hck)) rfl hl.1 rfl (Nat.le_of_ble_eq_true rfl) dX11_changed_105 ⟨Nat.le_of_ble_eq_true rfl, Nat.le_of_ble_eq_true rfl⟩) hw rfl (Nat.le_of_ble_eq_true rfl) (Nat.le_of_ble_eq_true rfl) (fun H locs hw => ?_)
      refine W.eq (g2 := F0 m 108 ls [.int z18, .int 1, .int x2]) rfl ?_
      have hw : w_W G M r s H locs := hw
      refine lv_ishl hx hb dX11_changed_108 ?_
      refine lv_ior hx hb dX11_changed_109 ?_
      refine lv_istore_n (lv' := [(2, .int (x2 ||| (1 <<< (z18 &&& 31)))), (0, .ref this), (1, .int a0), (3, .int x3), (4, .int x4), (5, .int x5)]) hx hb dX11_changed_110 rfl hl (by decide) rfl (fun ls hl => ?_)
      refine lv_iinc (v := x3 + 1) (lv' := [(3, .int (x3 + 1)), (2, .int (x2 ||| (1 <<< (z18 &&& 31)))), (0, .ref this), (1, .int a0), (4, .int x4), (5, .int x5)]) hx hb dX11_changed_111 hl (k := 3) rfl rfl (by decide) rfl (fun ls hl => ?_)
      refine lv_iinc (v := x4 + 1) (lv' := [(4, .int (x4 + 1)), (3, .int (x3 + 1)), (2, .int (x2 ||| (1 <<< (z18 &&& 31)))), (0, .ref this), (1, .int a0), (5, .int x5)]) hx hb dX11_changed_114 hl (k := 4) rfl rfl (by decide) rfl (fun ls hl => ?_)
      refine lv_goto (tgt := 7) hx hb dX11_changed_117 (by decide) ?_
      exact hk7 (x2 ||| (1 <<< (z18 &&& 31))) (x3 + 1) (x4 + 1) _ _ _ hw (lv_sub hl [3, 4, 2, 1, 0] rfl)
  have w7 : ∀ (n : Nat) (x2 : Int32) (x3 : Int32) (x4 : Int32) (H : Heap) (locs : List Loc) (ls : Array Slot), w_W G M r s H locs → lv_has ls 6 [(0, .ref this), (1, .int a0), (2, .int x2), (3, .int x3), (4, .int x4)] → W p l e rm_CT_changed s m args below meth c H locs 0 0 (PQ G below args s rm_CT_changed.cells rm_CT_changed.slots (fun z => (.inl (some (.int z)), M, r)) (f_CT_changed_7 N this a0 M n x2 x3 x4)) (F0 m 7 ls []) := by
    intro n
    induction n with
    | zero => intros; exact W_none
    | succ n ih =>
      intro x2 x3 x4 H locs ls hw hl
      rw [f_CT_changed_7]
      refine lv_iload hx hb dX11_changed_7 (lv_at hl 4 rfl) ?_
      refine lv_aload_n hx hb dX11_changed_9 rfl (lv_at hl 0 rfl) ?_
      refine gx_getR E hw kF_CT_20_10 (by decide) dX11_changed_10 (fun v1 _ => ?_)
      refine gx_getR E hw kF_CT_373_7 (by decide) dX11_changed_13 (fun v2 _ => ?_)
      refine gx_getI E hw kF_CT_377_3 (by decide) dX11_changed_16 (fun v3 _ => ?_)
      refine cx_icmp_ge (tgt := 120) E dX11_changed_19 (by decide) (fun _ => ?_) (fun _ => ?_)
      · refine lv_iload_n hx hb dX11_changed_120 rfl (lv_at hl 1 rfl) ?_
        refine cx_if_eq (tgt := 128) E dX11_changed_121 (by decide) (fun _ => ?_) (fun _ => ?_)
        · refine lv_iload_n hx hb dX11_changed_128 rfl (lv_at hl 2 rfl) ?_
          exact p_iret E hw hr (Nat.le_of_ble_eq_true rfl) (Nat.le_of_ble_eq_true rfl) rfl dX11_changed_129
        · refine lv_iload_n hx hb dX11_changed_124 rfl (lv_at hl 3 rfl) ?_
          refine lv_goto (tgt := 129) hx hb dX11_changed_125 (by decide) ?_
          exact p_iret E hw hr (Nat.le_of_ble_eq_true rfl) (Nat.le_of_ble_eq_true rfl) rfl dX11_changed_129
      · refine lv_aload_n hx hb dX11_changed_22 rfl (lv_at hl 0 rfl) ?_
        refine gx_getR E hw kF_CT_20_10 (by decide) dX11_changed_23 (fun v4 _ => ?_)
        refine gx_getR E hw kF_CT_373_7 (by decide) dX11_changed_26 (fun v5 _ => ?_)
        refine lv_iload hx hb dX11_changed_29 (lv_at hl 4 rfl) ?_
        refine W_bind fun _ hck => ?_
        refine W_bind fun z6 hz => ?_
        refine w_after (cells1 := 0) (slots1 := 0) (w_runV E kV_CT_382 kc_X3_timeBefore (t_Log_timeBefore l hfl G N v5 x4 M r ((fun z => (.inl (some (.int z)), M, r)) z6) (by rw [hz]; rfl)) ⟨Nat.le_of_ble_eq_true rfl, Nat.le_of_ble_eq_true rfl⟩ hw (w_recv E hw (by decide) ⟨_, _, rfl⟩ (ck_ok hck)) rfl hl.1 rfl (Nat.le_of_ble_eq_true rfl) dX11_changed_31 ⟨Nat.le_of_ble_eq_true rfl, Nat.le_of_ble_eq_true rfl⟩) hw rfl (Nat.le_of_ble_eq_true rfl) (Nat.le_of_ble_eq_true rfl) (fun H locs hw => ?_)
        refine W.eq (g2 := F0 m 34 ls [.int z6]) rfl ?_
        have hw : w_W G M r s H locs := hw
        refine lv_istore (lv' := [(5, .int z6), (0, .ref this), (1, .int a0), (2, .int x2), (3, .int x3), (4, .int x4)]) hx hb dX11_changed_34 hl (by decide) rfl (fun ls hl => ?_)
        refine lv_aload_n hx hb dX11_changed_36 rfl (lv_at hl 1 rfl) ?_
        refine gx_getR E hw kF_CT_20_10 (by decide) dX11_changed_37 (fun v7 _ => ?_)
        refine gx_getR E hw kF_CT_373_7 (by decide) dX11_changed_40 (fun v8 _ => ?_)
        refine lv_iload hx hb dX11_changed_43 (lv_at hl 5 rfl) ?_
        refine lv_iload hx hb dX11_changed_45 (lv_at hl 0 rfl) ?_
        refine lv_iconst (v := 3) hx hb dX11_changed_47 (by decide) ?_
        refine W_bind fun _ hck => ?_
        refine W_bind fun z9 hz => ?_
        refine w_after (cells1 := 0) (slots1 := 0) (w_runV E kV_CT_385 kc_X3_beganUnlike (t_Log_beganUnlike l hfl G v8 x4 z6 3 M r ((fun z => (.inl (some (.int z)), M, r)) z9) (by rw [hz]; rfl)) ⟨Nat.le_of_ble_eq_true rfl, Nat.le_of_ble_eq_true rfl⟩ hw (w_recv E hw (by decide) ⟨_, _, rfl⟩ (ck_ok hck)) rfl hl.1 rfl (Nat.le_of_ble_eq_true rfl) dX11_changed_48 ⟨Nat.le_of_ble_eq_true rfl, Nat.le_of_ble_eq_true rfl⟩) hw rfl (Nat.le_of_ble_eq_true rfl) (Nat.le_of_ble_eq_true rfl) (fun H locs hw => ?_)
        refine W.eq (g2 := F0 m 51 ls [.int z9]) rfl ?_
        have hw : w_W G M r s H locs := hw
        refine cx_if_eq (tgt := 75) E dX11_changed_51 (by decide) (fun _ => ?_) (fun _ => ?_)
        · exact w75 (f_CT_changed_7 N this a0 M n) ih x2 x3 x4 z6 _ _ _ hw (lv_sub hl [1, 2, 3, 4, 5, 0] rfl)
        · refine lv_iload_n hx hb dX11_changed_54 rfl (lv_at hl 3 rfl) ?_
          refine lv_iconst (v := 1) hx hb dX11_changed_55 (by decide) ?_
          refine lv_aload_n hx hb dX11_changed_56 rfl (lv_at hl 1 rfl) ?_
          refine gx_getR E hw kF_CT_20_10 (by decide) dX11_changed_57 (fun v10 _ => ?_)
          refine gx_getR E hw kF_CT_373_7 (by decide) dX11_changed_60 (fun v11 _ => ?_)
          refine lv_iload hx hb dX11_changed_63 (lv_at hl 5 rfl) ?_
          refine lv_iconst (v := 1) hx hb dX11_changed_65 (by decide) ?_
          refine W_bind fun _ hck => ?_
          refine W_bind fun z12 hz => ?_
          refine w_after (cells1 := 0) (slots1 := 0) (w_runV E kV_CT_388 kc_X3_cellOf (t_Log_cellOf l hfl G v11 x4 1 M r ((fun z => (.inl (some (.int z)), M, r)) z12) (by rw [hz]; rfl)) ⟨Nat.le_of_ble_eq_true rfl, Nat.le_of_ble_eq_true rfl⟩ hw (w_recv E hw (by decide) ⟨_, _, rfl⟩ (ck_ok hck)) rfl hl.1 rfl (Nat.le_of_ble_eq_true rfl) dX11_changed_66 ⟨Nat.le_of_ble_eq_true rfl, Nat.le_of_ble_eq_true rfl⟩) hw rfl (Nat.le_of_ble_eq_true rfl) (Nat.le_of_ble_eq_true rfl) (fun H locs hw => ?_)
          refine W.eq (g2 := F0 m 69 ls [.int z12, .int 1, .int x2]) rfl ?_
          have hw : w_W G M r s H locs := hw
          refine lv_ishl hx hb dX11_changed_69 ?_
          refine lv_ior hx hb dX11_changed_70 ?_
          refine lv_istore_n (lv' := [(2, .int (x2 ||| (1 <<< (z12 &&& 31)))), (5, .int z6), (0, .ref this), (1, .int a0), (3, .int x3), (4, .int x4)]) hx hb dX11_changed_71 rfl hl (by decide) rfl (fun ls hl => ?_)
          refine lv_iinc (v := x3 + 1) (lv' := [(3, .int (x3 + 1)), (2, .int (x2 ||| (1 <<< (z12 &&& 31)))), (5, .int z6), (0, .ref this), (1, .int a0), (4, .int x4)]) hx hb dX11_changed_72 hl (k := 4) rfl rfl (by decide) rfl (fun ls hl => ?_)
          exact w75 (f_CT_changed_7 N this a0 M n) ih (x2 ||| (1 <<< (z12 &&& 31))) (x3 + 1) x4 z6 _ _ _ hw (lv_sub hl [3, 4, 1, 0, 5, 2] rfl)
  unfold f_CT_changed
  refine lv_iconst (v := 0) hx hb dX11_changed_0 (by decide) ?_
  refine lv_istore_n (lv' := [(2, .int 0), (0, .ref this), (1, .int a0)]) hx hb dX11_changed_1 rfl hl (by decide) rfl (fun ls hl => ?_)
  refine lv_iconst (v := 0) hx hb dX11_changed_2 (by decide) ?_
  refine lv_istore_n (lv' := [(3, .int 0), (2, .int 0), (0, .ref this), (1, .int a0)]) hx hb dX11_changed_3 rfl hl (by decide) rfl (fun ls hl => ?_)
  refine lv_iconst (v := 0) hx hb dX11_changed_4 (by decide) ?_
  refine lv_istore (lv' := [(4, .int 0), (3, .int 0), (2, .int 0), (0, .ref this), (1, .int a0)]) hx hb dX11_changed_5 hl (by decide) rfl (fun ls hl => ?_)
  exact w7  N 0 0 0 _ _ _ hw (lv_sub hl [3, 4, 2, 1, 0] rfl)
set_option maxHeartbeats 4000000 in
set_option maxRecDepth 100000 in
theorem t_CT_seed (l : Launch) (hfl : l.stackTraces = false) (G : wG) (this : Nat) (a0 : Int32) (M : Mem) (r : Rho) : Ctr l yX11_seed (wWs yX11_seed cX11_seed 3 (some .int)) rm_CT_seed rm_CT_seed.cells rm_CT_seed.slots G [.ref this, .int a0] M r ((f_CT_seed this a0 M).map (fun z => (.inl (some (.int z.1)), z.2, r))) := by
  refine Ctr.ofF (own := "CheekTown") (by decide +kernel) hfl rfl (Nat.le_of_ble_eq_true rfl) (fun p e s m args below meth c E hno hr hnm hw ls hl => ?_)
  obtain ⟨hx, hb, hts, hown, hml, hTT, -⟩ := id E
  have hl : lv_has ls 3 [(0, .ref this), (1, .int a0)] := hl
  obtain ⟨H, hH⟩ : ∃ H, H = s.heap := ⟨_, rfl⟩
  obtain ⟨locs, hlo⟩ : ∃ L : List Loc, L = [] := ⟨_, rfl⟩
  rw [← hH, ← hlo]
  rw [← hlo] at hw
  replace hw : w_W G M r s H locs := by rw [hH]; exact hw
  unfold f_CT_seed
  refine lv_aload_n hx hb dX11_seed_0 rfl (lv_at hl 0 rfl) ?_
  refine gx_getR E hw kF_CT_20_10 (by decide) dX11_seed_1 (fun v1 _ => ?_)
  refine gx_getI E hw kF_CT_397_7 (by decide) dX11_seed_4 (fun v2 _ => ?_)
  refine lv_istore_n (lv' := [(2, .int v2), (0, .ref this), (1, .int a0)]) hx hb dX11_seed_7 rfl hl (by decide) rfl (fun ls hl => ?_)
  refine lv_aload_n hx hb dX11_seed_8 rfl (lv_at hl 1 rfl) ?_
  refine gx_getR E hw kF_CT_20_10 (by decide) dX11_seed_9 (fun v3 _ => ?_)
  refine lv_iload_n hx hb dX11_seed_12 rfl (lv_at hl 2 rfl) ?_
  refine gx_putI E hw kF_CT_397_7 kT_7_8 (by decide) dX11_seed_13 (fun M4 H locs _ hw => ?_)
  refine lv_iload_n hx hb dX11_seed_16 rfl (lv_at hl 0 rfl) ?_
  exact p_iret E hw hr (Nat.le_of_ble_eq_true rfl) (Nat.le_of_ble_eq_true rfl) rfl dX11_seed_17
set_option maxHeartbeats 4000000 in
set_option maxRecDepth 100000 in
theorem t_Manners_copyFrom (l : Launch) (hfl : l.stackTraces = false) (G : wG) (this : Nat) (a0 : Nat) (M : Mem) (r : Rho) : Ctr l yX4_copyFrom (wWs yX4_copyFrom cX4_copyFrom 2 none) rm_Manners_copyFrom rm_Manners_copyFrom.cells rm_Manners_copyFrom.slots G [.ref this, .ref a0] M r ((f_Manners_copyFrom this a0 M).map (fun z => (.inl none, z, r))) := by
  refine Ctr.ofF (own := "CheekTown$Manners") (by decide +kernel) hfl rfl (Nat.le_of_ble_eq_true rfl) (fun p e s m args below meth c E hno hr hnm hw ls hl => ?_)
  obtain ⟨hx, hb, hts, hown, hml, hTT, -⟩ := id E
  have hl : lv_has ls 2 [(0, .ref this), (1, .ref a0)] := hl
  obtain ⟨H, hH⟩ : ∃ H, H = s.heap := ⟨_, rfl⟩
  obtain ⟨locs, hlo⟩ : ∃ L : List Loc, L = [] := ⟨_, rfl⟩
  rw [← hH, ← hlo]
  rw [← hlo] at hw
  replace hw : w_W G M r s H locs := by rw [hH]; exact hw
  unfold f_Manners_copyFrom
  refine lv_aload_n hx hb dX4_copyFrom_0 rfl (lv_at hl 0 rfl) ?_
  refine lv_aload_n hx hb dX4_copyFrom_1 rfl (lv_at hl 1 rfl) ?_
  refine gx_getI E hw kF_Manners_7_4 (by decide) dX4_copyFrom_2 (fun v1 _ => ?_)
  refine gx_putI E hw kF_Manners_7_4 kT_4_0 (by decide) dX4_copyFrom_5 (fun M2 H locs _ hw => ?_)
  refine lv_aload_n hx hb dX4_copyFrom_8 rfl (lv_at hl 0 rfl) ?_
  refine lv_aload_n hx hb dX4_copyFrom_9 rfl (lv_at hl 1 rfl) ?_
  refine gx_getI E hw kF_Manners_13_4 (by decide) dX4_copyFrom_10 (fun v3 _ => ?_)
  refine gx_putI E hw kF_Manners_13_4 kT_4_1 (by decide) dX4_copyFrom_13 (fun M4 H locs _ hw => ?_)
  refine lv_aload_n hx hb dX4_copyFrom_16 rfl (lv_at hl 0 rfl) ?_
  refine lv_aload_n hx hb dX4_copyFrom_17 rfl (lv_at hl 1 rfl) ?_
  refine gx_getI E hw kF_Manners_16_4 (by decide) dX4_copyFrom_18 (fun v5 _ => ?_)
  refine gx_putI E hw kF_Manners_16_4 kT_4_2 (by decide) dX4_copyFrom_21 (fun M6 H locs _ hw => ?_)
  exact p_vret E hw hr (Nat.le_of_ble_eq_true rfl) (Nat.le_of_ble_eq_true rfl) rfl dX4_copyFrom_24
set_option maxHeartbeats 4000000 in
set_option maxRecDepth 100000 in
theorem t_Lands_copyFrom (l : Launch) (hfl : l.stackTraces = false) (G : wG) (this : Nat) (a0 : Nat) (M : Mem) (r : Rho) : Ctr l yX0_copyFrom (wWs yX0_copyFrom cX0_copyFrom 2 none) rm_Lands_copyFrom rm_Lands_copyFrom.cells rm_Lands_copyFrom.slots G [.ref this, .ref a0] M r ((f_Lands_copyFrom this a0 M).map (fun z => (.inl none, z, r))) := by
  refine Ctr.ofF (own := "CheekTown$Lands") (by decide +kernel) hfl rfl (Nat.le_of_ble_eq_true rfl) (fun p e s m args below meth c E hno hr hnm hw ls hl => ?_)
  obtain ⟨hx, hb, hts, hown, hml, hTT, -⟩ := id E
  have hl : lv_has ls 2 [(0, .ref this), (1, .ref a0)] := hl
  obtain ⟨H, hH⟩ : ∃ H, H = s.heap := ⟨_, rfl⟩
  obtain ⟨locs, hlo⟩ : ∃ L : List Loc, L = [] := ⟨_, rfl⟩
  rw [← hH, ← hlo]
  rw [← hlo] at hw
  replace hw : w_W G M r s H locs := by rw [hH]; exact hw
  unfold f_Lands_copyFrom
  refine lv_aload_n hx hb dX0_copyFrom_0 rfl (lv_at hl 0 rfl) ?_
  refine gx_getR E hw kF_Lands_12_0 (by decide) dX0_copyFrom_1 (fun v1 _ => ?_)
  refine lv_aload_n hx hb dX0_copyFrom_4 rfl (lv_at hl 1 rfl) ?_
  refine gx_getR E hw kF_Lands_12_0 (by decide) dX0_copyFrom_5 (fun v2 _ => ?_)
  refine W_bind fun _ hck => ?_
  refine W_bind fun z3 hz => ?_
  refine w_after (cells1 := 0) (slots1 := 0) (w_runV E kV_Lands_28 kc_X4_copyFrom (t_Manners_copyFrom l hfl G v1 v2 M r ((fun z => (.inl none, z, r)) z3) (by rw [hz]; rfl)) ⟨Nat.le_of_ble_eq_true rfl, Nat.le_of_ble_eq_true rfl⟩ hw (w_recv E hw (by decide) ⟨_, _, rfl⟩ (ck_ok hck)) rfl hl.1 rfl (Nat.le_of_ble_eq_true rfl) dX0_copyFrom_8 ⟨Nat.le_of_ble_eq_true rfl, Nat.le_of_ble_eq_true rfl⟩) hw rfl (Nat.le_of_ble_eq_true rfl) (Nat.le_of_ble_eq_true rfl) (fun H locs hw => ?_)
  refine W.eq (g2 := F0 m 11 ls []) rfl ?_
  have hw : w_W G z3 r s H locs := hw
  refine lv_aload_n hx hb dX0_copyFrom_11 rfl (lv_at hl 0 rfl) ?_
  refine lv_aload_n hx hb dX0_copyFrom_12 rfl (lv_at hl 1 rfl) ?_
  refine gx_getI E hw kF_Lands_32_0 (by decide) dX0_copyFrom_13 (fun v4 _ => ?_)
  refine gx_putI E hw kF_Lands_32_0 kT_0_1 (by decide) dX0_copyFrom_16 (fun M5 H locs _ hw => ?_)
  refine lv_aload_n hx hb dX0_copyFrom_19 rfl (lv_at hl 0 rfl) ?_
  refine lv_aload_n hx hb dX0_copyFrom_20 rfl (lv_at hl 1 rfl) ?_
  refine gx_getI E hw kF_Lands_36_0 (by decide) dX0_copyFrom_21 (fun v6 _ => ?_)
  refine gx_putI E hw kF_Lands_36_0 kT_0_2 (by decide) dX0_copyFrom_24 (fun M7 H locs _ hw => ?_)
  refine lv_aload_n hx hb dX0_copyFrom_27 rfl (lv_at hl 1 rfl) ?_
  refine gx_getR E hw kF_Lands_18_0 (by decide) dX0_copyFrom_28 (fun v8 _ => ?_)
  refine lv_iconst (v := 0) hx hb dX0_copyFrom_31 (by decide) ?_
  refine lv_aload_n hx hb dX0_copyFrom_32 rfl (lv_at hl 0 rfl) ?_
  refine gx_getR E hw kF_Lands_18_0 (by decide) dX0_copyFrom_33 (fun v9 _ => ?_)
  refine lv_iconst (v := 0) hx hb dX0_copyFrom_36 (by decide) ?_
  refine lv_bipush (v := 24) hx hb dX0_copyFrom_37 (by decide) ?_
  refine gx_copy E hw hl.1.symm kAL_Lands kAn kAs kAi (Nat.le_of_ble_eq_true rfl) (Nat.le_of_ble_eq_true rfl) dX0_copyFrom_39 (fun M10 H locs _ hw => ?_)
  refine lv_aload_n hx hb dX0_copyFrom_42 rfl (lv_at hl 1 rfl) ?_
  refine gx_getR E hw kF_Lands_22_0 (by decide) dX0_copyFrom_43 (fun v11 _ => ?_)
  refine lv_iconst (v := 0) hx hb dX0_copyFrom_46 (by decide) ?_
  refine lv_aload_n hx hb dX0_copyFrom_47 rfl (lv_at hl 0 rfl) ?_
  refine gx_getR E hw kF_Lands_22_0 (by decide) dX0_copyFrom_48 (fun v12 _ => ?_)
  refine lv_iconst (v := 0) hx hb dX0_copyFrom_51 (by decide) ?_
  refine lv_bipush (v := 24) hx hb dX0_copyFrom_52 (by decide) ?_
  refine gx_copy E hw hl.1.symm kAL_Lands kAn kAs kAi (Nat.le_of_ble_eq_true rfl) (Nat.le_of_ble_eq_true rfl) dX0_copyFrom_54 (fun M13 H locs _ hw => ?_)
  refine lv_aload_n hx hb dX0_copyFrom_57 rfl (lv_at hl 1 rfl) ?_
  refine gx_getR E hw kF_Lands_25_0 (by decide) dX0_copyFrom_58 (fun v14 _ => ?_)
  refine lv_iconst (v := 0) hx hb dX0_copyFrom_61 (by decide) ?_
  refine lv_aload_n hx hb dX0_copyFrom_62 rfl (lv_at hl 0 rfl) ?_
  refine gx_getR E hw kF_Lands_25_0 (by decide) dX0_copyFrom_63 (fun v15 _ => ?_)
  refine lv_iconst (v := 0) hx hb dX0_copyFrom_66 (by decide) ?_
  refine lv_bipush (v := 24) hx hb dX0_copyFrom_67 (by decide) ?_
  refine gx_copy E hw hl.1.symm kAL_Lands kAn kAs kAi (Nat.le_of_ble_eq_true rfl) (Nat.le_of_ble_eq_true rfl) dX0_copyFrom_69 (fun M16 H locs _ hw => ?_)
  exact p_vret E hw hr (Nat.le_of_ble_eq_true rfl) (Nat.le_of_ble_eq_true rfl) rfl dX0_copyFrom_72
set_option maxHeartbeats 4000000 in
set_option maxRecDepth 100000 in
theorem t_Person_copyFrom (l : Launch) (hfl : l.stackTraces = false) (G : wG) (this : Nat) (a0 : Nat) (M : Mem) (r : Rho) : Ctr l yX5_copyFrom (wWs yX5_copyFrom cX5_copyFrom 2 none) rm_Person_copyFrom rm_Person_copyFrom.cells rm_Person_copyFrom.slots G [.ref this, .ref a0] M r ((f_Person_copyFrom this a0 M).map (fun z => (.inl none, z, r))) := by
  refine Ctr.ofF (own := "CheekTown$Person") (by decide +kernel) hfl rfl (Nat.le_of_ble_eq_true rfl) (fun p e s m args below meth c E hno hr hnm hw ls hl => ?_)
  obtain ⟨hx, hb, hts, hown, hml, hTT, -⟩ := id E
  have hl : lv_has ls 2 [(0, .ref this), (1, .ref a0)] := hl
  obtain ⟨H, hH⟩ : ∃ H, H = s.heap := ⟨_, rfl⟩
  obtain ⟨locs, hlo⟩ : ∃ L : List Loc, L = [] := ⟨_, rfl⟩
  rw [← hH, ← hlo]
  rw [← hlo] at hw
  replace hw : w_W G M r s H locs := by rw [hH]; exact hw
  unfold f_Person_copyFrom
  refine lv_aload_n hx hb dX5_copyFrom_0 rfl (lv_at hl 0 rfl) ?_
  refine lv_aload_n hx hb dX5_copyFrom_1 rfl (lv_at hl 1 rfl) ?_
  refine gx_getI E hw kF_Person_31_5 (by decide) dX5_copyFrom_2 (fun v1 _ => ?_)
  refine gx_putI E hw kF_Person_31_5 kT_5_0 (by decide) dX5_copyFrom_5 (fun M2 H locs _ hw => ?_)
  refine lv_aload_n hx hb dX5_copyFrom_8 rfl (lv_at hl 0 rfl) ?_
  refine lv_aload_n hx hb dX5_copyFrom_9 rfl (lv_at hl 1 rfl) ?_
  refine gx_getI E hw kF_Person_34_5 (by decide) dX5_copyFrom_10 (fun v3 _ => ?_)
  refine gx_putI E hw kF_Person_34_5 kT_5_1 (by decide) dX5_copyFrom_13 (fun M4 H locs _ hw => ?_)
  refine lv_aload_n hx hb dX5_copyFrom_16 rfl (lv_at hl 0 rfl) ?_
  refine lv_aload_n hx hb dX5_copyFrom_17 rfl (lv_at hl 1 rfl) ?_
  refine gx_getI E hw kF_Person_37_5 (by decide) dX5_copyFrom_18 (fun v5 _ => ?_)
  refine gx_putI E hw kF_Person_37_5 kT_5_2 (by decide) dX5_copyFrom_21 (fun M6 H locs _ hw => ?_)
  refine lv_aload_n hx hb dX5_copyFrom_24 rfl (lv_at hl 0 rfl) ?_
  refine lv_aload_n hx hb dX5_copyFrom_25 rfl (lv_at hl 1 rfl) ?_
  refine gx_getI E hw kF_Person_40_5 (by decide) dX5_copyFrom_26 (fun v7 _ => ?_)
  refine gx_putI E hw kF_Person_40_5 kT_5_3 (by decide) dX5_copyFrom_29 (fun M8 H locs _ hw => ?_)
  refine lv_aload_n hx hb dX5_copyFrom_32 rfl (lv_at hl 0 rfl) ?_
  refine lv_aload_n hx hb dX5_copyFrom_33 rfl (lv_at hl 1 rfl) ?_
  refine gx_getI E hw kF_Person_43_5 (by decide) dX5_copyFrom_34 (fun v9 _ => ?_)
  refine gx_putZ E hw kF_Person_43_5 kT_5_4 (by decide) dX5_copyFrom_37 (fun M10 H locs _ hw => ?_)
  refine lv_aload_n hx hb dX5_copyFrom_40 rfl (lv_at hl 0 rfl) ?_
  refine lv_aload_n hx hb dX5_copyFrom_41 rfl (lv_at hl 1 rfl) ?_
  refine gx_getI E hw kF_Person_47_5 (by decide) dX5_copyFrom_42 (fun v11 _ => ?_)
  refine gx_putI E hw kF_Person_47_5 kT_5_5 (by decide) dX5_copyFrom_45 (fun M12 H locs _ hw => ?_)
  refine lv_aload_n hx hb dX5_copyFrom_48 rfl (lv_at hl 0 rfl) ?_
  refine lv_aload_n hx hb dX5_copyFrom_49 rfl (lv_at hl 1 rfl) ?_
  refine gx_getI E hw kF_Person_9_5 (by decide) dX5_copyFrom_50 (fun v13 _ => ?_)
  refine gx_putI E hw kF_Person_9_5 kT_5_6 (by decide) dX5_copyFrom_53 (fun M14 H locs _ hw => ?_)
  refine lv_aload_n hx hb dX5_copyFrom_56 rfl (lv_at hl 0 rfl) ?_
  refine lv_aload_n hx hb dX5_copyFrom_57 rfl (lv_at hl 1 rfl) ?_
  refine gx_getI E hw kF_Person_15_5 (by decide) dX5_copyFrom_58 (fun v15 _ => ?_)
  refine gx_putI E hw kF_Person_15_5 kT_5_7 (by decide) dX5_copyFrom_61 (fun M16 H locs _ hw => ?_)
  refine lv_aload_n hx hb dX5_copyFrom_64 rfl (lv_at hl 1 rfl) ?_
  refine gx_getR E hw kF_Person_18_5 (by decide) dX5_copyFrom_65 (fun v17 _ => ?_)
  refine lv_iconst (v := 0) hx hb dX5_copyFrom_68 (by decide) ?_
  refine lv_aload_n hx hb dX5_copyFrom_69 rfl (lv_at hl 0 rfl) ?_
  refine gx_getR E hw kF_Person_18_5 (by decide) dX5_copyFrom_70 (fun v18 _ => ?_)
  refine lv_iconst (v := 0) hx hb dX5_copyFrom_73 (by decide) ?_
  refine lv_bipush (v := 10) hx hb dX5_copyFrom_74 (by decide) ?_
  refine gx_copy E hw hl.1.symm kAL_Person kAn kAs kAi (Nat.le_of_ble_eq_true rfl) (Nat.le_of_ble_eq_true rfl) dX5_copyFrom_76 (fun M19 H locs _ hw => ?_)
  refine lv_aload_n hx hb dX5_copyFrom_79 rfl (lv_at hl 1 rfl) ?_
  refine gx_getR E hw kF_Person_22_5 (by decide) dX5_copyFrom_80 (fun v20 _ => ?_)
  refine lv_iconst (v := 0) hx hb dX5_copyFrom_83 (by decide) ?_
  refine lv_aload_n hx hb dX5_copyFrom_84 rfl (lv_at hl 0 rfl) ?_
  refine gx_getR E hw kF_Person_22_5 (by decide) dX5_copyFrom_85 (fun v21 _ => ?_)
  refine lv_iconst (v := 0) hx hb dX5_copyFrom_88 (by decide) ?_
  refine lv_bipush (v := 10) hx hb dX5_copyFrom_89 (by decide) ?_
  refine gx_copy E hw hl.1.symm kAL_Person kAn kAs kAi (Nat.le_of_ble_eq_true rfl) (Nat.le_of_ble_eq_true rfl) dX5_copyFrom_91 (fun M22 H locs _ hw => ?_)
  exact p_vret E hw hr (Nat.le_of_ble_eq_true rfl) (Nat.le_of_ble_eq_true rfl) rfl dX5_copyFrom_94
set_option maxHeartbeats 4000000 in
set_option maxRecDepth 100000 in
theorem t_Log_copyFrom (l : Launch) (hfl : l.stackTraces = false) (G : wG) (this : Nat) (a0 : Nat) (M : Mem) (r : Rho) : Ctr l yX3_copyFrom (wWs yX3_copyFrom cX3_copyFrom 2 none) rm_Log_copyFrom rm_Log_copyFrom.cells rm_Log_copyFrom.slots G [.ref this, .ref a0] M r ((f_Log_copyFrom this a0 M).map (fun z => (.inl none, z, r))) := by
  refine Ctr.ofF (own := "CheekTown$Log") (by decide +kernel) hfl rfl (Nat.le_of_ble_eq_true rfl) (fun p e s m args below meth c E hno hr hnm hw ls hl => ?_)
  obtain ⟨hx, hb, hts, hown, hml, hTT, -⟩ := id E
  have hl : lv_has ls 2 [(0, .ref this), (1, .ref a0)] := hl
  obtain ⟨H, hH⟩ : ∃ H, H = s.heap := ⟨_, rfl⟩
  obtain ⟨locs, hlo⟩ : ∃ L : List Loc, L = [] := ⟨_, rfl⟩
  rw [← hH, ← hlo]
  rw [← hlo] at hw
  replace hw : w_W G M r s H locs := by rw [hH]; exact hw
  unfold f_Log_copyFrom
  refine lv_aload_n hx hb dX3_copyFrom_0 rfl (lv_at hl 0 rfl) ?_
  refine lv_aload_n hx hb dX3_copyFrom_1 rfl (lv_at hl 1 rfl) ?_
  refine gx_getI E hw kF_Log_15_3 (by decide) dX3_copyFrom_2 (fun v1 _ => ?_)
  refine gx_putI E hw kF_Log_15_3 kT_3_0 (by decide) dX3_copyFrom_5 (fun M2 H locs _ hw => ?_)
  refine lv_aload_n hx hb dX3_copyFrom_8 rfl (lv_at hl 0 rfl) ?_
  refine lv_aload_n hx hb dX3_copyFrom_9 rfl (lv_at hl 1 rfl) ?_
  refine gx_getI E hw kF_Log_19_3 (by decide) dX3_copyFrom_10 (fun v3 _ => ?_)
  refine gx_putI E hw kF_Log_19_3 kT_3_1 (by decide) dX3_copyFrom_13 (fun M4 H locs _ hw => ?_)
  refine lv_aload_n hx hb dX3_copyFrom_16 rfl (lv_at hl 1 rfl) ?_
  refine gx_getR E hw kF_Log_11_3 (by decide) dX3_copyFrom_17 (fun v5 _ => ?_)
  refine lv_iconst (v := 0) hx hb dX3_copyFrom_20 (by decide) ?_
  refine lv_aload_n hx hb dX3_copyFrom_21 rfl (lv_at hl 0 rfl) ?_
  refine gx_getR E hw kF_Log_11_3 (by decide) dX3_copyFrom_22 (fun v6 _ => ?_)
  refine lv_iconst (v := 0) hx hb dX3_copyFrom_25 (by decide) ?_
  refine lv_sipush (v := 480) hx hb dX3_copyFrom_26 (by decide) ?_
  refine gx_copy E hw hl.1.symm kAL_Log kAn kAs kAi (Nat.le_of_ble_eq_true rfl) (Nat.le_of_ble_eq_true rfl) dX3_copyFrom_29 (fun M7 H locs _ hw => ?_)
  exact p_vret E hw hr (Nat.le_of_ble_eq_true rfl) (Nat.le_of_ble_eq_true rfl) rfl dX3_copyFrom_32
set_option maxHeartbeats 4000000 in
set_option maxRecDepth 100000 in
theorem t_Town_copyFrom (l : Launch) (hfl : l.stackTraces = false) (G : wG) (N : Nat) (this : Nat) (a0 : Nat) (M : Mem) (r : Rho) : Ctr l yX8_copyFrom (wWs yX8_copyFrom cX8_copyFrom 3 none) rm_Town_copyFrom rm_Town_copyFrom.cells rm_Town_copyFrom.slots G [.ref this, .ref a0] M r ((f_Town_copyFrom N this a0 M).map (fun z => (.inl none, z, r))) := by
  refine Ctr.ofF (own := "CheekTown$Town") (by decide +kernel) hfl rfl (Nat.le_of_ble_eq_true rfl) (fun p e s m args below meth c E hno hr hnm hw ls hl => ?_)
  obtain ⟨hx, hb, hts, hown, hml, hTT, -⟩ := id E
  have hl : lv_has ls 3 [(0, .ref this), (1, .ref a0)] := hl
  obtain ⟨H, hH⟩ : ∃ H, H = s.heap := ⟨_, rfl⟩
  obtain ⟨locs, hlo⟩ : ∃ L : List Loc, L = [] := ⟨_, rfl⟩
  rw [← hH, ← hlo]
  rw [← hlo] at hw
  replace hw : w_W G M r s H locs := by rw [hH]; exact hw
  have w13 : ∀ (n : Nat) (x2 : Int32) (M : Mem) (H : Heap) (locs : List Loc) (ls : Array Slot), w_W G M r s H locs → lv_has ls 3 [(0, .ref this), (1, .ref a0), (2, .int x2)] → W p l e rm_Town_copyFrom s m args below meth c H locs 0 0 (PQ G below args s rm_Town_copyFrom.cells rm_Town_copyFrom.slots (fun z => (.inl none, z, r)) (f_Town_copyFrom_13 N this a0 n x2 M)) (F0 m 13 ls []) := by
    intro n
    induction n with
    | zero => intros; exact W_none
    | succ n ih =>
      intro x2 M H locs ls hw hl
      rw [f_Town_copyFrom_13]
      refine lv_iload_n hx hb dX8_copyFrom_13 rfl (lv_at hl 2 rfl) ?_
      refine lv_bipush (v := 10) hx hb dX8_copyFrom_14 (by decide) ?_
      refine cx_icmp_ge (tgt := 40) E dX8_copyFrom_16 (by decide) (fun _ => ?_) (fun _ => ?_)
      · refine lv_aload_n hx hb dX8_copyFrom_40 rfl (lv_at hl 0 rfl) ?_
        refine lv_aload_n hx hb dX8_copyFrom_41 rfl (lv_at hl 1 rfl) ?_
        refine gx_getI E hw kF_Town_50_7 (by decide) dX8_copyFrom_42 (fun v4 _ => ?_)
        refine gx_putI E hw kF_Town_50_7 kT_7_2 (by decide) dX8_copyFrom_45 (fun M5 H locs _ hw => ?_)
        refine lv_aload_n hx hb dX8_copyFrom_48 rfl (lv_at hl 1 rfl) ?_
        refine gx_getR E hw kF_Town_24_7 (by decide) dX8_copyFrom_49 (fun v6 _ => ?_)
        refine lv_iconst (v := 0) hx hb dX8_copyFrom_52 (by decide) ?_
        refine lv_aload_n hx hb dX8_copyFrom_53 rfl (lv_at hl 0 rfl) ?_
        refine gx_getR E hw kF_Town_24_7 (by decide) dX8_copyFrom_54 (fun v7 _ => ?_)
        refine lv_iconst (v := 0) hx hb dX8_copyFrom_57 (by decide) ?_
        refine lv_bipush (v := 24) hx hb dX8_copyFrom_58 (by decide) ?_
        refine gx_copy E hw hl.1.symm kAL_Town kAn kAs kAi (Nat.le_of_ble_eq_true rfl) (Nat.le_of_ble_eq_true rfl) dX8_copyFrom_60 (fun M8 H locs _ hw => ?_)
        refine lv_aload_n hx hb dX8_copyFrom_63 rfl (lv_at hl 1 rfl) ?_
        refine gx_getR E hw kF_Town_28_7 (by decide) dX8_copyFrom_64 (fun v9 _ => ?_)
        refine lv_iconst (v := 0) hx hb dX8_copyFrom_67 (by decide) ?_
        refine lv_aload_n hx hb dX8_copyFrom_68 rfl (lv_at hl 0 rfl) ?_
        refine gx_getR E hw kF_Town_28_7 (by decide) dX8_copyFrom_69 (fun v10 _ => ?_)
        refine lv_iconst (v := 0) hx hb dX8_copyFrom_72 (by decide) ?_
        refine lv_bipush (v := 24) hx hb dX8_copyFrom_73 (by decide) ?_
        refine gx_copy E hw hl.1.symm kAL_Town kAn kAs kAi (Nat.le_of_ble_eq_true rfl) (Nat.le_of_ble_eq_true rfl) dX8_copyFrom_75 (fun M11 H locs _ hw => ?_)
        refine lv_aload_n hx hb dX8_copyFrom_78 rfl (lv_at hl 0 rfl) ?_
        refine lv_aload_n hx hb dX8_copyFrom_79 rfl (lv_at hl 1 rfl) ?_
        refine gx_getI E hw kF_Town_59_7 (by decide) dX8_copyFrom_80 (fun v12 _ => ?_)
        refine gx_putI E hw kF_Town_59_7 kT_7_5 (by decide) dX8_copyFrom_83 (fun M13 H locs _ hw => ?_)
        refine lv_aload_n hx hb dX8_copyFrom_86 rfl (lv_at hl 0 rfl) ?_
        refine lv_aload_n hx hb dX8_copyFrom_87 rfl (lv_at hl 1 rfl) ?_
        refine gx_getN E hw kF_Town_62_7 (by decide) dX8_copyFrom_88 (fun v14 _ => ?_)
        refine gx_putN E hw kF_Town_62_7 kT_7_6 (by cases v14 <;> rfl) (by cases v14 <;> rfl) (by decide) dX8_copyFrom_91 (fun M15 H locs _ hw => ?_)
        refine lv_aload_n hx hb dX8_copyFrom_94 rfl (lv_at hl 0 rfl) ?_
        refine lv_aload_n hx hb dX8_copyFrom_95 rfl (lv_at hl 1 rfl) ?_
        refine gx_getI E hw kF_Town_66_7 (by decide) dX8_copyFrom_96 (fun v16 _ => ?_)
        refine gx_putI E hw kF_Town_66_7 kT_7_7 (by decide) dX8_copyFrom_99 (fun M17 H locs _ hw => ?_)
        refine lv_aload_n hx hb dX8_copyFrom_102 rfl (lv_at hl 0 rfl) ?_
        refine lv_aload_n hx hb dX8_copyFrom_103 rfl (lv_at hl 1 rfl) ?_
        refine gx_getI E hw kF_Town_31_7 (by decide) dX8_copyFrom_104 (fun v18 _ => ?_)
        refine gx_putI E hw kF_Town_31_7 kT_7_8 (by decide) dX8_copyFrom_107 (fun M19 H locs _ hw => ?_)
        refine lv_aload_n hx hb dX8_copyFrom_110 rfl (lv_at hl 0 rfl) ?_
        refine lv_aload_n hx hb dX8_copyFrom_111 rfl (lv_at hl 1 rfl) ?_
        refine gx_getI E hw kF_Town_69_7 (by decide) dX8_copyFrom_112 (fun v20 _ => ?_)
        refine gx_putI E hw kF_Town_69_7 kT_7_9 (by decide) dX8_copyFrom_115 (fun M21 H locs _ hw => ?_)
        refine lv_aload_n hx hb dX8_copyFrom_118 rfl (lv_at hl 0 rfl) ?_
        refine lv_aload_n hx hb dX8_copyFrom_119 rfl (lv_at hl 1 rfl) ?_
        refine gx_getI E hw kF_Town_72_7 (by decide) dX8_copyFrom_120 (fun v22 _ => ?_)
        refine gx_putI E hw kF_Town_72_7 kT_7_10 (by decide) dX8_copyFrom_123 (fun M23 H locs _ hw => ?_)
        refine lv_aload_n hx hb dX8_copyFrom_126 rfl (lv_at hl 0 rfl) ?_
        refine lv_aload_n hx hb dX8_copyFrom_127 rfl (lv_at hl 1 rfl) ?_
        refine gx_getI E hw kF_Town_75_7 (by decide) dX8_copyFrom_128 (fun v24 _ => ?_)
        refine gx_putI E hw kF_Town_75_7 kT_7_11 (by decide) dX8_copyFrom_131 (fun M25 H locs _ hw => ?_)
        refine lv_aload_n hx hb dX8_copyFrom_134 rfl (lv_at hl 0 rfl) ?_
        refine lv_aload_n hx hb dX8_copyFrom_135 rfl (lv_at hl 1 rfl) ?_
        refine gx_getI E hw kF_Town_78_7 (by decide) dX8_copyFrom_136 (fun v26 _ => ?_)
        refine gx_putI E hw kF_Town_78_7 kT_7_12 (by decide) dX8_copyFrom_139 (fun M27 H locs _ hw => ?_)
        refine lv_aload_n hx hb dX8_copyFrom_142 rfl (lv_at hl 0 rfl) ?_
        refine lv_aload_n hx hb dX8_copyFrom_143 rfl (lv_at hl 1 rfl) ?_
        refine gx_getI E hw kF_Town_81_7 (by decide) dX8_copyFrom_144 (fun v28 _ => ?_)
        refine gx_putI E hw kF_Town_81_7 kT_7_13 (by decide) dX8_copyFrom_147 (fun M29 H locs _ hw => ?_)
        refine lv_aload_n hx hb dX8_copyFrom_150 rfl (lv_at hl 0 rfl) ?_
        refine gx_getR E hw kF_Town_38_7 (by decide) dX8_copyFrom_151 (fun v30 _ => ?_)
        refine lv_aload_n hx hb dX8_copyFrom_154 rfl (lv_at hl 1 rfl) ?_
        refine gx_getR E hw kF_Town_38_7 (by decide) dX8_copyFrom_155 (fun v31 _ => ?_)
        refine W_bind fun _ hck => ?_
        refine W_bind fun z32 hz => ?_
        refine w_after (cells1 := 0) (slots1 := 0) (w_runV E kV_Town_84 kc_X3_copyFrom (t_Log_copyFrom l hfl G v30 v31 M29 r ((fun z => (.inl none, z, r)) z32) (by rw [hz]; rfl)) ⟨Nat.le_of_ble_eq_true rfl, Nat.le_of_ble_eq_true rfl⟩ hw (w_recv E hw (by decide) ⟨_, _, rfl⟩ (ck_ok hck)) rfl hl.1 rfl (Nat.le_of_ble_eq_true rfl) dX8_copyFrom_158 ⟨Nat.le_of_ble_eq_true rfl, Nat.le_of_ble_eq_true rfl⟩) hw rfl (Nat.le_of_ble_eq_true rfl) (Nat.le_of_ble_eq_true rfl) (fun H locs hw => ?_)
        refine W.eq (g2 := F0 m 161 ls []) rfl ?_
        have hw : w_W G z32 r s H locs := hw
        exact p_vret E hw hr (Nat.le_of_ble_eq_true rfl) (Nat.le_of_ble_eq_true rfl) rfl dX8_copyFrom_161
      · refine lv_aload_n hx hb dX8_copyFrom_19 rfl (lv_at hl 0 rfl) ?_
        refine gx_getR E hw kF_Town_20_7 (by decide) dX8_copyFrom_20 (fun v33 _ => ?_)
        refine lv_iload_n hx hb dX8_copyFrom_23 rfl (lv_at hl 2 rfl) ?_
        refine gx_aald E hw (by decide) dX8_copyFrom_24 (fun v34 _ => ?_)
        refine lv_aload_n hx hb dX8_copyFrom_25 rfl (lv_at hl 1 rfl) ?_
        refine gx_getR E hw kF_Town_20_7 (by decide) dX8_copyFrom_26 (fun v35 _ => ?_)
        refine lv_iload_n hx hb dX8_copyFrom_29 rfl (lv_at hl 2 rfl) ?_
        refine gx_aald E hw (by decide) dX8_copyFrom_30 (fun v36 _ => ?_)
        refine W_bind fun _ hck => ?_
        refine W_bind fun z37 hz => ?_
        refine w_after (cells1 := 0) (slots1 := 0) (w_runV E kV_Town_47 kc_X5_copyFrom (t_Person_copyFrom l hfl G v34 v36 M r ((fun z => (.inl none, z, r)) z37) (by rw [hz]; rfl)) ⟨Nat.le_of_ble_eq_true rfl, Nat.le_of_ble_eq_true rfl⟩ hw (w_recv E hw (by decide) ⟨_, _, rfl⟩ (ck_ok hck)) rfl hl.1 rfl (Nat.le_of_ble_eq_true rfl) dX8_copyFrom_31 ⟨Nat.le_of_ble_eq_true rfl, Nat.le_of_ble_eq_true rfl⟩) hw rfl (Nat.le_of_ble_eq_true rfl) (Nat.le_of_ble_eq_true rfl) (fun H locs hw => ?_)
        refine W.eq (g2 := F0 m 34 ls []) rfl ?_
        have hw : w_W G z37 r s H locs := hw
        refine lv_iinc (v := x2 + 1) (lv' := [(2, .int (x2 + 1)), (0, .ref this), (1, .ref a0)]) hx hb dX8_copyFrom_34 hl (k := 2) rfl rfl (by decide) rfl (fun ls hl => ?_)
        refine lv_goto (tgt := 13) hx hb dX8_copyFrom_37 (by decide) ?_
        exact ih (x2 + 1) z37 _ _ _ hw (lv_sub hl [1, 2, 0] rfl)
  unfold f_Town_copyFrom
  refine lv_aload_n hx hb dX8_copyFrom_0 rfl (lv_at hl 0 rfl) ?_
  refine gx_getR E hw kF_Town_12_7 (by decide) dX8_copyFrom_1 (fun v1 _ => ?_)
  refine lv_aload_n hx hb dX8_copyFrom_4 rfl (lv_at hl 1 rfl) ?_
  refine gx_getR E hw kF_Town_12_7 (by decide) dX8_copyFrom_5 (fun v2 _ => ?_)
  refine W_bind fun _ hck => ?_
  refine W_bind fun z3 hz => ?_
  refine w_after (cells1 := 0) (slots1 := 0) (w_runV E kV_Town_43 kc_X0_copyFrom (t_Lands_copyFrom l hfl G v1 v2 M r ((fun z => (.inl none, z, r)) z3) (by rw [hz]; rfl)) ⟨Nat.le_of_ble_eq_true rfl, Nat.le_of_ble_eq_true rfl⟩ hw (w_recv E hw (by decide) ⟨_, _, rfl⟩ (ck_ok hck)) rfl hl.1 rfl (Nat.le_of_ble_eq_true rfl) dX8_copyFrom_8 ⟨Nat.le_of_ble_eq_true rfl, Nat.le_of_ble_eq_true rfl⟩) hw rfl (Nat.le_of_ble_eq_true rfl) (Nat.le_of_ble_eq_true rfl) (fun H locs hw => ?_)
  refine W.eq (g2 := F0 m 11 ls []) rfl ?_
  have hw : w_W G z3 r s H locs := hw
  refine lv_iconst (v := 0) hx hb dX8_copyFrom_11 (by decide) ?_
  refine lv_istore_n (lv' := [(2, .int 0), (0, .ref this), (1, .ref a0)]) hx hb dX8_copyFrom_12 rfl hl (by decide) rfl (fun ls hl => ?_)
  exact w13  N 0 z3 _ _ _ hw (lv_sub hl [1, 2, 0] rfl)
set_option maxHeartbeats 4000000 in
set_option maxRecDepth 100000 in
theorem t_CT_undo (l : Launch) (hfl : l.stackTraces = false) (G : wG) (N : Nat) (this : Nat) (M : Mem) (r : Rho) : Ctr l yX11_undo (wWs yX11_undo cX11_undo 1 (some .boolean)) rm_CT_undo rm_CT_undo.cells rm_CT_undo.slots G [.ref this] M r ((f_CT_undo N this M).map (fun z => (.inl (some (.int z.1)), z.2, r))) := by
  refine Ctr.ofF (own := "CheekTown") (by decide +kernel) hfl rfl (Nat.le_of_ble_eq_true rfl) (fun p e s m args below meth c E hno hr hnm hw ls hl => ?_)
  obtain ⟨hx, hb, hts, hown, hml, hTT, -⟩ := id E
  have hl : lv_has ls 1 [(0, .ref this)] := hl
  obtain ⟨H, hH⟩ : ∃ H, H = s.heap := ⟨_, rfl⟩
  obtain ⟨locs, hlo⟩ : ∃ L : List Loc, L = [] := ⟨_, rfl⟩
  rw [← hH, ← hlo]
  rw [← hlo] at hw
  replace hw : w_W G M r s H locs := by rw [hH]; exact hw
  unfold f_CT_undo
  refine lv_aload_n hx hb dX11_undo_0 rfl (lv_at hl 0 rfl) ?_
  refine gx_getI E hw kF_CT_88_10 (by decide) dX11_undo_1 (fun v1 _ => ?_)
  refine cx_if_gt (tgt := 9) E dX11_undo_4 (by decide) (fun _ => ?_) (fun _ => ?_)
  · refine lv_aload_n hx hb dX11_undo_9 rfl (lv_at hl 0 rfl) ?_
    refine lv_dup hx hb dX11_undo_10 rfl ?_
    refine gx_getI E hw kF_CT_88_10 (by decide) dX11_undo_11 (fun v2 _ => ?_)
    refine lv_iconst (v := 1) hx hb dX11_undo_14 (by decide) ?_
    refine lv_isub hx hb dX11_undo_15 ?_
    refine gx_putI E hw kF_CT_88_10 kT_10_7 (by decide) dX11_undo_16 (fun M3 H locs _ hw => ?_)
    refine lv_aload_n hx hb dX11_undo_19 rfl (lv_at hl 0 rfl) ?_
    refine gx_getR E hw kF_CT_20_10 (by decide) dX11_undo_20 (fun v4 _ => ?_)
    refine lv_aload_n hx hb dX11_undo_23 rfl (lv_at hl 0 rfl) ?_
    refine gx_getR E hw kF_CT_27_10 (by decide) dX11_undo_24 (fun v5 _ => ?_)
    refine lv_aload_n hx hb dX11_undo_27 rfl (lv_at hl 0 rfl) ?_
    refine gx_getI E hw kF_CT_88_10 (by decide) dX11_undo_28 (fun v6 _ => ?_)
    refine gx_aald E hw (by decide) dX11_undo_31 (fun v7 _ => ?_)
    refine W_bind fun _ hck => ?_
    refine W_bind fun z8 hz => ?_
    refine w_after (cells1 := 0) (slots1 := 0) (w_runV E kV_CT_59 kc_X8_copyFrom (t_Town_copyFrom l hfl G N v4 v7 M3 r ((fun z => (.inl none, z, r)) z8) (by rw [hz]; rfl)) ⟨Nat.le_of_ble_eq_true rfl, Nat.le_of_ble_eq_true rfl⟩ hw (w_recv E hw (by decide) ⟨_, _, rfl⟩ (ck_ok hck)) rfl hl.1 rfl (Nat.le_of_ble_eq_true rfl) dX11_undo_32 ⟨Nat.le_of_ble_eq_true rfl, Nat.le_of_ble_eq_true rfl⟩) hw rfl (Nat.le_of_ble_eq_true rfl) (Nat.le_of_ble_eq_true rfl) (fun H locs hw => ?_)
    refine W.eq (g2 := F0 m 35 ls []) rfl ?_
    have hw : w_W G z8 r s H locs := hw
    refine lv_iconst (v := 1) hx hb dX11_undo_35 (by decide) ?_
    exact p_zret E hw hr (by decide) (Nat.le_of_ble_eq_true rfl) (Nat.le_of_ble_eq_true rfl) rfl dX11_undo_36
  · refine lv_iconst (v := 0) hx hb dX11_undo_7 (by decide) ?_
    exact p_zret E hw hr (by decide) (Nat.le_of_ble_eq_true rfl) (Nat.le_of_ble_eq_true rfl) rfl dX11_undo_8
set_option maxHeartbeats 4000000 in
set_option maxRecDepth 100000 in
theorem t_CT_image (l : Launch) (hfl : l.stackTraces = false) (G : wG) (N : Nat) (this : Nat) (M : Mem) (r : Rho) : Ctr l yX11_image (wWs yX11_image cX11_image 1 none) rm_CT_image rm_CT_image.cells rm_CT_image.slots G [.ref this] M r ((f_CT_image N this M).map (fun z => (.inl none, z, r))) := by
  refine Ctr.ofF (own := "CheekTown") (by decide +kernel) hfl rfl (Nat.le_of_ble_eq_true rfl) (fun p e s m args below meth c E hno hr hnm hw ls hl => ?_)
  obtain ⟨hx, hb, hts, hown, hml, hTT, -⟩ := id E
  have hl : lv_has ls 1 [(0, .ref this)] := hl
  obtain ⟨H, hH⟩ : ∃ H, H = s.heap := ⟨_, rfl⟩
  obtain ⟨locs, hlo⟩ : ∃ L : List Loc, L = [] := ⟨_, rfl⟩
  rw [← hH, ← hlo]
  rw [← hlo] at hw
  replace hw : w_W G M r s H locs := by rw [hH]; exact hw
  unfold f_CT_image
  refine lv_aload_n hx hb dX11_image_0 rfl (lv_at hl 0 rfl) ?_
  refine gx_getR E hw kF_CT_24_10 (by decide) dX11_image_1 (fun v1 _ => ?_)
  refine lv_aload_n hx hb dX11_image_4 rfl (lv_at hl 0 rfl) ?_
  refine gx_getR E hw kF_CT_20_10 (by decide) dX11_image_5 (fun v2 _ => ?_)
  refine W_bind fun _ hck => ?_
  refine W_bind fun z3 hz => ?_
  refine w_after (cells1 := 0) (slots1 := 0) (w_runV E kV_CT_59 kc_X8_copyFrom (t_Town_copyFrom l hfl G N v1 v2 M r ((fun z => (.inl none, z, r)) z3) (by rw [hz]; rfl)) ⟨Nat.le_of_ble_eq_true rfl, Nat.le_of_ble_eq_true rfl⟩ hw (w_recv E hw (by decide) ⟨_, _, rfl⟩ (ck_ok hck)) rfl hl.1 rfl (Nat.le_of_ble_eq_true rfl) dX11_image_8 ⟨Nat.le_of_ble_eq_true rfl, Nat.le_of_ble_eq_true rfl⟩) hw rfl (Nat.le_of_ble_eq_true rfl) (Nat.le_of_ble_eq_true rfl) (fun H locs hw => ?_)
  refine W.eq (g2 := F0 m 11 ls []) rfl ?_
  have hw : w_W G z3 r s H locs := hw
  refine lv_aload_n hx hb dX11_image_11 rfl (lv_at hl 0 rfl) ?_
  refine lv_iconst (v := 1) hx hb dX11_image_12 (by decide) ?_
  refine gx_putZ E hw kF_CT_400_10 kT_10_5 (by decide) dX11_image_13 (fun M4 H locs _ hw => ?_)
  exact p_vret E hw hr (Nat.le_of_ble_eq_true rfl) (Nat.le_of_ble_eq_true rfl) rfl dX11_image_16
set_option maxHeartbeats 4000000 in
set_option maxRecDepth 100000 in
theorem t_CT_back (l : Launch) (hfl : l.stackTraces = false) (G : wG) (N : Nat) (this : Nat) (M : Mem) (r : Rho) : Ctr l yX11_back (wWs yX11_back cX11_back 1 (some .boolean)) rm_CT_back rm_CT_back.cells rm_CT_back.slots G [.ref this] M r ((f_CT_back N this M).map (fun z => (.inl (some (.int z.1)), z.2, r))) := by
  refine Ctr.ofF (own := "CheekTown") (by decide +kernel) hfl rfl (Nat.le_of_ble_eq_true rfl) (fun p e s m args below meth c E hno hr hnm hw ls hl => ?_)
  obtain ⟨hx, hb, hts, hown, hml, hTT, -⟩ := id E
  have hl : lv_has ls 1 [(0, .ref this)] := hl
  obtain ⟨H, hH⟩ : ∃ H, H = s.heap := ⟨_, rfl⟩
  obtain ⟨locs, hlo⟩ : ∃ L : List Loc, L = [] := ⟨_, rfl⟩
  rw [← hH, ← hlo]
  rw [← hlo] at hw
  replace hw : w_W G M r s H locs := by rw [hH]; exact hw
  unfold f_CT_back
  refine lv_aload_n hx hb dX11_back_0 rfl (lv_at hl 0 rfl) ?_
  refine gx_getI E hw kF_CT_400_10 (by decide) dX11_back_1 (fun v1 _ => ?_)
  refine cx_if_ne (tgt := 9) E dX11_back_4 (by decide) (fun _ => ?_) (fun _ => ?_)
  · refine lv_aload_n hx hb dX11_back_9 rfl (lv_at hl 0 rfl) ?_
    refine gx_getR E hw kF_CT_20_10 (by decide) dX11_back_10 (fun v2 _ => ?_)
    refine lv_aload_n hx hb dX11_back_13 rfl (lv_at hl 0 rfl) ?_
    refine gx_getR E hw kF_CT_24_10 (by decide) dX11_back_14 (fun v3 _ => ?_)
    refine W_bind fun _ hck => ?_
    refine W_bind fun z4 hz => ?_
    refine w_after (cells1 := 0) (slots1 := 0) (w_runV E kV_CT_59 kc_X8_copyFrom (t_Town_copyFrom l hfl G N v2 v3 M r ((fun z => (.inl none, z, r)) z4) (by rw [hz]; rfl)) ⟨Nat.le_of_ble_eq_true rfl, Nat.le_of_ble_eq_true rfl⟩ hw (w_recv E hw (by decide) ⟨_, _, rfl⟩ (ck_ok hck)) rfl hl.1 rfl (Nat.le_of_ble_eq_true rfl) dX11_back_17 ⟨Nat.le_of_ble_eq_true rfl, Nat.le_of_ble_eq_true rfl⟩) hw rfl (Nat.le_of_ble_eq_true rfl) (Nat.le_of_ble_eq_true rfl) (fun H locs hw => ?_)
    refine W.eq (g2 := F0 m 20 ls []) rfl ?_
    have hw : w_W G z4 r s H locs := hw
    refine lv_aload_n hx hb dX11_back_20 rfl (lv_at hl 0 rfl) ?_
    refine lv_iconst (v := 0) hx hb dX11_back_21 (by decide) ?_
    refine gx_putI E hw kF_CT_88_10 kT_10_7 (by decide) dX11_back_22 (fun M5 H locs _ hw => ?_)
    refine lv_iconst (v := 1) hx hb dX11_back_25 (by decide) ?_
    exact p_zret E hw hr (by decide) (Nat.le_of_ble_eq_true rfl) (Nat.le_of_ble_eq_true rfl) rfl dX11_back_26
  · refine lv_iconst (v := 0) hx hb dX11_back_7 (by decide) ?_
    exact p_zret E hw hr (by decide) (Nat.le_of_ble_eq_true rfl) (Nat.le_of_ble_eq_true rfl) rfl dX11_back_8
set_option maxHeartbeats 4000000 in
set_option maxRecDepth 100000 in
theorem t_Town_peopleWithCold (l : Launch) (hfl : l.stackTraces = false) (G : wG) (N : Nat) (this : Nat) (M : Mem) (r : Rho) : Ctr l yX8_peopleWithCold (wWs yX8_peopleWithCold cX8_peopleWithCold 3 (some .int)) rm_Town_peopleWithCold rm_Town_peopleWithCold.cells rm_Town_peopleWithCold.slots G [.ref this] M r ((f_Town_peopleWithCold N this M).map (fun z => (.inl (some (.int z)), M, r))) := by
  refine Ctr.ofF (own := "CheekTown$Town") (by decide +kernel) hfl rfl (Nat.le_of_ble_eq_true rfl) (fun p e s m args below meth c E hno hr hnm hw ls hl => ?_)
  obtain ⟨hx, hb, hts, hown, hml, hTT, -⟩ := id E
  have hl : lv_has ls 3 [(0, .ref this)] := hl
  obtain ⟨H, hH⟩ : ∃ H, H = s.heap := ⟨_, rfl⟩
  obtain ⟨locs, hlo⟩ : ∃ L : List Loc, L = [] := ⟨_, rfl⟩
  rw [← hH, ← hlo]
  rw [← hlo] at hw
  replace hw : w_W G M r s H locs := by rw [hH]; exact hw
  have w32 : ∀ (k4 : Int32 → Int32 → Option (Int32)) (hk4 : ∀ (x1 : Int32) (x2 : Int32) (H : Heap) (locs : List Loc) (ls : Array Slot), w_W G M r s H locs → lv_has ls 3 [(0, .ref this), (1, .int x1), (2, .int x2)] → W p l e rm_Town_peopleWithCold s m args below meth c H locs 0 0 (PQ G below args s rm_Town_peopleWithCold.cells rm_Town_peopleWithCold.slots (fun z => (.inl (some (.int z)), M, r)) (k4 x1 x2)) (F0 m 4 ls [])) (x2 : Int32) (y0 : Int32) (y1 : Int32) (H : Heap) (locs : List Loc) (ls : Array Slot), w_W G M r s H locs → lv_has ls 3 [(0, .ref this), (2, .int x2)] → W p l e rm_Town_peopleWithCold s m args below meth c H locs 0 0 (PQ G below args s rm_Town_peopleWithCold.cells rm_Town_peopleWithCold.slots (fun z => (.inl (some (.int z)), M, r)) (f_Town_peopleWithCold_32 N this M k4 x2 y0 y1)) (F0 m 32 ls [.int y1, .int y0]) := by
    intro k4 hk4 x2 y0 y1 H locs ls hw hl
    unfold f_Town_peopleWithCold_32
    refine lv_ior hx hb dX8_peopleWithCold_32 ?_
    refine lv_istore_n (lv' := [(1, .int (y0 ||| y1)), (0, .ref this), (2, .int x2)]) hx hb dX8_peopleWithCold_33 rfl hl (by decide) rfl (fun ls hl => ?_)
    refine lv_iinc (v := x2 + 1) (lv' := [(2, .int (x2 + 1)), (1, .int (y0 ||| y1)), (0, .ref this)]) hx hb dX8_peopleWithCold_34 hl (k := 2) rfl rfl (by decide) rfl (fun ls hl => ?_)
    refine lv_goto (tgt := 4) hx hb dX8_peopleWithCold_37 (by decide) ?_
    exact hk4 (y0 ||| y1) (x2 + 1) _ _ _ hw (lv_sub hl [2, 1, 0] rfl)
  have w4 : ∀ (n : Nat) (x1 : Int32) (x2 : Int32) (H : Heap) (locs : List Loc) (ls : Array Slot), w_W G M r s H locs → lv_has ls 3 [(0, .ref this), (1, .int x1), (2, .int x2)] → W p l e rm_Town_peopleWithCold s m args below meth c H locs 0 0 (PQ G below args s rm_Town_peopleWithCold.cells rm_Town_peopleWithCold.slots (fun z => (.inl (some (.int z)), M, r)) (f_Town_peopleWithCold_4 N this M n x1 x2)) (F0 m 4 ls []) := by
    intro n
    induction n with
    | zero => intros; exact W_none
    | succ n ih =>
      intro x1 x2 H locs ls hw hl
      rw [f_Town_peopleWithCold_4]
      refine lv_iload_n hx hb dX8_peopleWithCold_4 rfl (lv_at hl 2 rfl) ?_
      refine lv_aload_n hx hb dX8_peopleWithCold_5 rfl (lv_at hl 0 rfl) ?_
      refine gx_getI E hw kF_Town_50_7 (by decide) dX8_peopleWithCold_6 (fun v1 _ => ?_)
      refine cx_icmp_ge (tgt := 40) E dX8_peopleWithCold_9 (by decide) (fun _ => ?_) (fun _ => ?_)
      · refine lv_iload_n hx hb dX8_peopleWithCold_40 rfl (lv_at hl 1 rfl) ?_
        exact p_iret E hw hr (Nat.le_of_ble_eq_true rfl) (Nat.le_of_ble_eq_true rfl) rfl dX8_peopleWithCold_41
      · refine lv_iload_n hx hb dX8_peopleWithCold_12 rfl (lv_at hl 1 rfl) ?_
        refine lv_aload_n hx hb dX8_peopleWithCold_13 rfl (lv_at hl 0 rfl) ?_
        refine gx_getR E hw kF_Town_20_7 (by decide) dX8_peopleWithCold_14 (fun v2 _ => ?_)
        refine lv_iload_n hx hb dX8_peopleWithCold_17 rfl (lv_at hl 2 rfl) ?_
        refine gx_aald E hw (by decide) dX8_peopleWithCold_18 (fun v3 _ => ?_)
        refine gx_getI E hw kF_Town_106_5 (by decide) dX8_peopleWithCold_19 (fun v4 _ => ?_)
        refine cx_if_eq (tgt := 31) E dX8_peopleWithCold_22 (by decide) (fun _ => ?_) (fun _ => ?_)
        · refine lv_iconst (v := 0) hx hb dX8_peopleWithCold_31 (by decide) ?_
          exact w32 (f_Town_peopleWithCold_4 N this M n) ih x2 x1 0 _ _ _ hw (lv_sub hl [0, 2] rfl)
        · refine lv_iconst (v := 1) hx hb dX8_peopleWithCold_25 (by decide) ?_
          refine lv_iload_n hx hb dX8_peopleWithCold_26 rfl (lv_at hl 2 rfl) ?_
          refine lv_ishl hx hb dX8_peopleWithCold_27 ?_
          refine lv_goto (tgt := 32) hx hb dX8_peopleWithCold_28 (by decide) ?_
          exact w32 (f_Town_peopleWithCold_4 N this M n) ih x2 x1 (1 <<< (x2 &&& 31)) _ _ _ hw (lv_sub hl [0, 2] rfl)
  unfold f_Town_peopleWithCold
  refine lv_iconst (v := 0) hx hb dX8_peopleWithCold_0 (by decide) ?_
  refine lv_istore_n (lv' := [(1, .int 0), (0, .ref this)]) hx hb dX8_peopleWithCold_1 rfl hl (by decide) rfl (fun ls hl => ?_)
  refine lv_iconst (v := 0) hx hb dX8_peopleWithCold_2 (by decide) ?_
  refine lv_istore_n (lv' := [(2, .int 0), (1, .int 0), (0, .ref this)]) hx hb dX8_peopleWithCold_3 rfl hl (by decide) rfl (fun ls hl => ?_)
  exact w4  N 0 0 _ _ _ hw (lv_sub hl [2, 1, 0] rfl)

