def f_LR_readDeeper (N : Nat) : Nat → Nat → Int32 → Int32 → Mem → Option (Mem)
  | 0, _, _, _, _ => none
  | d + 1, this, a0, a1, M => if a1 ≤ 6 then (if a0 = 0 then ((ck M 2 this).bind fun _ => (f_LR_readAny N (f_LR_readDeeper N d) this a1 M).bind fun z1 => (ck z1 2 this).bind fun _ => (f_TxR_readSign_2 N this 41 z1).bind fun z2 => some z2) else ((ck M 2 this).bind fun _ => (f_LR_readAtom N (f_LR_readDeeper N d) this a1 M).bind fun z3 => (gR z3 2 this 6).bind fun v4 => (ck z3 1 v4).bind fun _ => (f_Law_addStep v4 9 0 z3).bind fun z5 => some z5)) else ((ck M 2 this).bind fun _ => (f_TxR_takenIsWrong_2 this M).bind fun z6 => some z6)
abbrev rm_LR_readDeeper (d : Nat) : Room := { frames := 60 + 12 * d + 0, cells := 0, slots := 0, locals := 3000 + 400 * d + 0 }
set_option maxHeartbeats 4000000 in
set_option maxRecDepth 100000 in
theorem t_LR_readDeeper (l : Launch) (hfl : l.stackTraces = false) (G : wG) (N : Nat) : ∀ (d : Nat) (this : Nat) (a0 : Int32) (a1 : Int32) (M : Mem) (r : Rho), Ctr l yX2_readDeeper (wWs yX2_readDeeper cX2_readDeeper 3 none) (rm_LR_readDeeper d) (rm_LR_readDeeper d).cells (rm_LR_readDeeper d).slots G [.ref this, .int a0, .int a1] M r ((f_LR_readDeeper N d this a0 a1 M).map (fun z => (.inl none, z, r))) := by
  intro d
  induction d with
  | zero => intros; intro x hx; cases hx
  | succ d ihd =>
    intro this a0 a1 M r
    refine Ctr.ofF (own := "CheekTown$LawReade\x72") (by decide +kernel) hfl rfl (Nat.le_of_ble_eq_true rfl) (fun p e s m args below meth c E hno hr hnm hw ls hl => ?_)
    obtain ⟨hx, hb, hts, hown, hml, hTT, -⟩ := id E
    have hl : lv_has ls 3 [(0, .ref this), (1, .int a0), (2, .int a1)] := hl
    obtain ⟨H, hH⟩ : ∃ H, H = s.heap := ⟨_, rfl⟩
    obtain ⟨locs, hlo⟩ : ∃ L : List Loc, L = [] := ⟨_, rfl⟩
    rw [← hH, ← hlo]
    rw [← hlo] at hw
    replace hw : w_W G M r s H locs := by rw [hH]; exact hw
    rw [f_LR_readDeeper]
    refine lv_iload_n hx hb dX2_readDeeper_0 rfl (lv_at hl 2 rfl) ?_
    refine lv_bipush (v := 6) hx hb dX2_readDeeper_1 (by decide) ?_
    refine cx_icmp_le (tgt := 13) E dX2_readDeeper_3 (by decide) (fun _ => ?_) (fun _ => ?_)
    · refine lv_iload_n hx hb dX2_readDeeper_13 rfl (lv_at hl 1 rfl) ?_
      refine cx_if_eq (tgt := 35) E dX2_readDeeper_14 (by decide) (fun _ => ?_) (fun _ => ?_)
      · refine lv_aload_n hx hb dX2_readDeeper_35 rfl (lv_at hl 0 rfl) ?_
        refine lv_iload_n hx hb dX2_readDeeper_36 rfl (lv_at hl 2 rfl) ?_
        refine W_bind fun _ hck => ?_
        refine W_bind fun z1 hz => ?_
        refine w_after (cells1 := 0) (slots1 := 0) (w_runV E kV_LR_23 kc_X2_readAny (t_LR_readAny l hfl G N (f_LR_readDeeper N d) d ihd this a1 M r ((fun z => (.inl none, z, r)) z1) (by rw [hz]; rfl)) ⟨by show 60 + 12 * d + 3 + 1 ≤ 60 + 12 * (d + 1) + 0; omega, by show 8 + (3 + 11) + (3000 + 400 * d + 180) ≤ 3000 + 400 * (d + 1) + 0; omega⟩ hw (w_recv E hw (by decide) ⟨_, _, rfl⟩ (ck_ok hck)) rfl hl.1 rfl (Nat.le_of_ble_eq_true rfl) dX2_readDeeper_37 ⟨Nat.le_refl _, Nat.le_refl _⟩) hw rfl (Nat.le_refl _) (Nat.le_refl _) (fun H locs hw => ?_)
        refine W.eq (g2 := F0 m 40 ls []) rfl ?_
        have hw : w_W G z1 r s H locs := hw
        refine lv_aload_n hx hb dX2_readDeeper_40 rfl (lv_at hl 0 rfl) ?_
        refine lv_bipush (v := 41) hx hb dX2_readDeeper_41 (by decide) ?_
        refine W_bind fun _ hck => ?_
        refine W_bind fun z2 hz => ?_
        refine w_after (cells1 := 0) (slots1 := 0) (w_runU E kU_LR_67_LR kc_X7_readSign (t_TxR_readSign_2 l hfl G N this 41 z1 r ((fun z => (.inl none, z, r)) z2) (by rw [hz]; rfl)) ⟨by show 2 + 1 ≤ 60 + 12 * (d + 1) + 0; omega, by show 8 + (2 + 11) + (42) ≤ 3000 + 400 * (d + 1) + 0; omega⟩ hw (w_recv E hw (by decide) ⟨_, _, rfl⟩ (ck_ok hck)) rfl hl.1 rfl (Nat.le_of_ble_eq_true rfl) dX2_readDeeper_43 ⟨Nat.le_refl _, Nat.le_refl _⟩) hw rfl (Nat.le_refl _) (Nat.le_refl _) (fun H locs hw => ?_)
        refine W.eq (g2 := F0 m 46 ls []) rfl ?_
        have hw : w_W G z2 r s H locs := hw
        exact p_vret E hw hr (Nat.le_of_ble_eq_true rfl) (Nat.le_of_ble_eq_true rfl) rfl dX2_readDeeper_46
      · refine lv_aload_n hx hb dX2_readDeeper_17 rfl (lv_at hl 0 rfl) ?_
        refine lv_iload_n hx hb dX2_readDeeper_18 rfl (lv_at hl 2 rfl) ?_
        refine W_bind fun _ hck => ?_
        refine W_bind fun z3 hz => ?_
        refine w_after (cells1 := 0) (slots1 := 0) (w_runV E kV_LR_44 kc_X2_readAtom (t_LR_readAtom l hfl G N (f_LR_readDeeper N d) d ihd this a1 M r ((fun z => (.inl none, z, r)) z3) (by rw [hz]; rfl)) ⟨by show 60 + 12 * d + 1 + 1 ≤ 60 + 12 * (d + 1) + 0; omega, by show 8 + (4 + 11) + (3000 + 400 * d + 60) ≤ 3000 + 400 * (d + 1) + 0; omega⟩ hw (w_recv E hw (by decide) ⟨_, _, rfl⟩ (ck_ok hck)) rfl hl.1 rfl (Nat.le_of_ble_eq_true rfl) dX2_readDeeper_19 ⟨Nat.le_refl _, Nat.le_refl _⟩) hw rfl (Nat.le_refl _) (Nat.le_refl _) (fun H locs hw => ?_)
        refine W.eq (g2 := F0 m 22 ls []) rfl ?_
        have hw : w_W G z3 r s H locs := hw
        refine lv_aload_n hx hb dX2_readDeeper_22 rfl (lv_at hl 0 rfl) ?_
        refine gx_getR E hw kF_LR_7_2 (by decide) dX2_readDeeper_23 (fun v4 _ => ?_)
        refine lv_bipush (v := 9) hx hb dX2_readDeeper_26 (by decide) ?_
        refine lv_iconst (v := 0) hx hb dX2_readDeeper_28 (by decide) ?_
        refine W_bind fun _ hck => ?_
        refine W_bind fun z5 hz => ?_
        refine w_after (cells1 := 0) (slots1 := 0) (w_runV E kV_LR_40 kc_X1_addStep (t_Law_addStep l hfl G v4 9 0 z3 r ((fun z => (.inl none, z, r)) z5) (by rw [hz]; rfl)) ⟨by show 0 + 1 ≤ 60 + 12 * (d + 1) + 0; omega, by show 8 + (3 + 11) + (0) ≤ 3000 + 400 * (d + 1) + 0; omega⟩ hw (w_recv E hw (by decide) ⟨_, _, rfl⟩ (ck_ok hck)) rfl hl.1 rfl (Nat.le_of_ble_eq_true rfl) dX2_readDeeper_29 ⟨Nat.le_refl _, Nat.le_refl _⟩) hw rfl (Nat.le_refl _) (Nat.le_refl _) (fun H locs hw => ?_)
        refine W.eq (g2 := F0 m 32 ls []) rfl ?_
        have hw : w_W G z5 r s H locs := hw
        refine lv_goto (tgt := 46) hx hb dX2_readDeeper_32 (by decide) ?_
        exact p_vret E hw hr (Nat.le_of_ble_eq_true rfl) (Nat.le_of_ble_eq_true rfl) rfl dX2_readDeeper_46
    · refine lv_aload_n hx hb dX2_readDeeper_6 rfl (lv_at hl 0 rfl) ?_
      refine W_bind fun _ hck => ?_
      refine W_bind fun z6 hz => ?_
      refine w_after (cells1 := 0) (slots1 := 0) (w_runU E kU_LR_71_LR kc_X7_takenIsWrong (t_TxR_takenIsWrong_2 l hfl G this M r ((fun z => (.inl none, z, r)) z6) (by rw [hz]; rfl)) ⟨by show 0 + 1 ≤ 60 + 12 * (d + 1) + 0; omega, by show 8 + (1 + 11) + (0) ≤ 3000 + 400 * (d + 1) + 0; omega⟩ hw (w_recv E hw (by decide) ⟨_, _, rfl⟩ (ck_ok hck)) rfl hl.1 rfl (Nat.le_of_ble_eq_true rfl) dX2_readDeeper_7 ⟨Nat.le_refl _, Nat.le_refl _⟩) hw rfl (Nat.le_refl _) (Nat.le_refl _) (fun H locs hw => ?_)
      refine W.eq (g2 := F0 m 10 ls []) rfl ?_
      have hw : w_W G z6 r s H locs := hw
      refine lv_goto (tgt := 46) hx hb dX2_readDeeper_10 (by decide) ?_
      exact p_vret E hw hr (Nat.le_of_ble_eq_true rfl) (Nat.le_of_ble_eq_true rfl) rfl dX2_readDeeper_46
def f_R_atom_138 (N : Nat) (fr : Rho → Option (Int32 × Rho)) (x3 : Int32) (r : Rho) : Option (Int32 × Rho) :=
  (zg x3).bind fun z11 => some (z11, r_set r 13 ((r.1 13) - 1))
def f_R_atom_128 (N : Nat) (fr : Rho → Option (Int32 × Rho)) (x3 : Int32) (r : Rho) : Option (Int32 × Rho) :=
  f_R_atom_138 N (fr) x3 (r_set r 11 ((r.1 11) + 1))
def f_R_atom_84 (N : Nat) (fr : Rho → Option (Int32 × Rho)) (y0 : Int32) (r : Rho) : Option (Int32 × Rho) :=
  f_R_atom_138 N (fr) y0 r
def f_R_atom_40 (N : Nat) (fr : Rho → Option (Int32 × Rho)) (x1 : Int32) (x2 : Int32) (r : Rho) : Option (Int32 × Rho) :=
  if (r.1 13) = 6 then ((f_R_wrong x1 r).bind fun z10 => some (0, z10)) else (if x2 = 0 then ((f_R_some N (fr) (r_set (r_set r 13 ((r.1 13) + 1)) 11 (((r_set r 13 ((r.1 13) + 1)).1 11) + 1))).bind fun z6 => if (z6.2.1 12) = (-1) then ((f_R_isSign N 41 z6.2).bind fun z7 => if z7.1 = 0 then ((f_R_wrong (z7.2.1 11) z7.2).bind fun z8 => f_R_atom_128 N (fr) z6.1 z8) else (f_R_atom_128 N (fr) z6.1 z7.2)) else (f_R_atom_128 N (fr) z6.1 z6.2)) else ((fr (r_set r 13 ((r.1 13) + 1))).bind fun z9 => if z9.1 = 0 then (f_R_atom_84 N (fr) 1 z9.2) else (f_R_atom_84 N (fr) 0 z9.2)))
def f_R_atom (N : Nat) : Nat → Rho → Option (Int32 × Rho)
  | 0, _ => none
  | d + 1, r => if (r.1 12) = (-1) then ((f_R_place N r).bind fun z1 => (f_R_has_ N 49 z1.2).bind fun z2 => if z2.1 = 0 then ((f_R_isSign N 40 z2.2).bind fun z3 => if z3.1 = 0 then ((f_R_plain N z3.2).bind fun z4 => (zg z4.1).bind fun z5 => some (z5, z4.2)) else (f_R_atom_40 N (f_R_atom N d) z1.1 z2.1 z3.2)) else (f_R_atom_40 N (f_R_atom N d) z1.1 z2.1 z2.2)) else (some (0, r))
abbrev rm_R_atom (d : Nat) : Room := { frames := 60 + 12 * d + 0, cells := 0, slots := 0, locals := 3000 + 400 * d + 0 }
set_option maxHeartbeats 4000000 in
set_option maxRecDepth 100000 in
theorem t_R_atom (l : Launch) (hfl : l.stackTraces = false) (G : wG) (on : g_on G = true) (N : Nat) : ∀ (d : Nat) (M : Mem) (r : Rho), Ctr l yX12_atom (wWs yX12_atom cX12_atom 4 (some .boolean)) (rm_R_atom d) (rm_R_atom d).cells (rm_R_atom d).slots G [.ref (g_r G)] M r ((f_R_atom N d r).map (fun z => (.inl (some (.int z.1)), M, z.2))) := by
  intro d
  induction d with
  | zero => intros; intro x hx; cases hx
  | succ d ihd =>
    intro M r
    refine Ctr.ofF (own := "CheekTownModel") (by decide +kernel) hfl rfl (Nat.le_of_ble_eq_true rfl) (fun p e s m args below meth c E hno hr hnm hw ls hl => ?_)
    obtain ⟨hx, hb, hts, hown, hml, hTT, -⟩ := id E
    have hl : lv_has ls 4 [(0, .ref (g_r G))] := hl
    obtain ⟨H, hH⟩ : ∃ H, H = s.heap := ⟨_, rfl⟩
    obtain ⟨locs, hlo⟩ : ∃ L : List Loc, L = [] := ⟨_, rfl⟩
    rw [← hH, ← hlo]
    rw [← hlo] at hw
    replace hw : w_W G M r s H locs := by rw [hH]; exact hw
    have w138 : ∀ (x3 : Int32) (r : Rho) (H : Heap) (locs : List Loc) (ls : Array Slot), w_W G M r s H locs → lv_has ls 4 [(0, .ref (g_r G)), (3, .int x3)] → W p l e (rm_R_atom (d + 1)) s m args below meth c H locs 0 0 (PQ G below args s (rm_R_atom (d + 1)).cells (rm_R_atom (d + 1)).slots (fun z => (.inl (some (.int z.1)), M, z.2)) (f_R_atom_138 N (f_R_atom N d) x3 r)) (F0 m 138 ls []) := by
      intro x3 r H locs ls hw hl
      unfold f_R_atom_138
      refine lv_aload_n hx hb dX12_atom_138 rfl (lv_at hl 0 rfl) ?_
      refine lv_dup hx hb dX12_atom_139 rfl ?_
      refine rx_getI E hw on kF_R_184_11 (by decide) dX12_atom_140 ?_
      refine lv_iconst (v := 1) hx hb dX12_atom_143 (by decide) ?_
      refine lv_isub hx hb dX12_atom_144 ?_
      refine rx_putI E hw on kF_R_184_11 (by decide) kT_11_13 dX12_atom_145 (fun H locs hw => ?_)
      refine lv_iload_n hx hb dX12_atom_148 rfl (lv_at hl 1 rfl) ?_
      refine W_bind fun z11 hz => ?_
      obtain ⟨rfl, hz0⟩ := zg_ok hz
      exact p_zret E hw hr hz0 (Nat.le_of_ble_eq_true rfl) (Nat.le_of_ble_eq_true rfl) rfl dX12_atom_149
    have w128 : ∀ (x3 : Int32) (r : Rho) (H : Heap) (locs : List Loc) (ls : Array Slot), w_W G M r s H locs → lv_has ls 4 [(0, .ref (g_r G)), (3, .int x3)] → W p l e (rm_R_atom (d + 1)) s m args below meth c H locs 0 0 (PQ G below args s (rm_R_atom (d + 1)).cells (rm_R_atom (d + 1)).slots (fun z => (.inl (some (.int z.1)), M, z.2)) (f_R_atom_128 N (f_R_atom N d) x3 r)) (F0 m 128 ls []) := by
      intro x3 r H locs ls hw hl
      unfold f_R_atom_128
      refine lv_aload_n hx hb dX12_atom_128 rfl (lv_at hl 0 rfl) ?_
      refine lv_dup hx hb dX12_atom_129 rfl ?_
      refine rx_getI E hw on kF_R_79_11 (by decide) dX12_atom_130 ?_
      refine lv_iconst (v := 1) hx hb dX12_atom_133 (by decide) ?_
      refine lv_iadd hx hb dX12_atom_134 ?_
      refine rx_putI E hw on kF_R_79_11 (by decide) kT_11_11 dX12_atom_135 (fun H locs hw => ?_)
      exact w138  x3 (r_set r 11 ((r.1 11) + 1)) _ _ _ hw (lv_sub hl [0, 1] rfl)
    have w84 : ∀ (y0 : Int32) (r : Rho) (H : Heap) (locs : List Loc) (ls : Array Slot), w_W G M r s H locs → lv_has ls 4 [(0, .ref (g_r G))] → W p l e (rm_R_atom (d + 1)) s m args below meth c H locs 0 0 (PQ G below args s (rm_R_atom (d + 1)).cells (rm_R_atom (d + 1)).slots (fun z => (.inl (some (.int z.1)), M, z.2)) (f_R_atom_84 N (f_R_atom N d) y0 r)) (F0 m 84 ls [.int y0]) := by
      intro y0 r H locs ls hw hl
      unfold f_R_atom_84
      refine lv_istore_n (lv' := [(3, .int y0), (0, .ref (g_r G))]) hx hb dX12_atom_84 rfl hl (by decide) rfl (fun ls hl => ?_)
      refine lv_goto (tgt := 138) hx hb dX12_atom_85 (by decide) ?_
      exact w138  y0 r _ _ _ hw (lv_sub hl [1, 0] rfl)
    have w40 : ∀ (x1 : Int32) (x2 : Int32) (r : Rho) (H : Heap) (locs : List Loc) (ls : Array Slot), w_W G M r s H locs → lv_has ls 4 [(0, .ref (g_r G)), (1, .int x1), (2, .int x2)] → W p l e (rm_R_atom (d + 1)) s m args below meth c H locs 0 0 (PQ G below args s (rm_R_atom (d + 1)).cells (rm_R_atom (d + 1)).slots (fun z => (.inl (some (.int z.1)), M, z.2)) (f_R_atom_40 N (f_R_atom N d) x1 x2 r)) (F0 m 40 ls []) := by
      intro x1 x2 r H locs ls hw hl
      unfold f_R_atom_40
      refine lv_aload_n hx hb dX12_atom_40 rfl (lv_at hl 0 rfl) ?_
      refine rx_getI E hw on kF_R_184_11 (by decide) dX12_atom_41 ?_
      refine lv_bipush (v := 6) hx hb dX12_atom_44 (by decide) ?_
      refine cx_icmp_ne (tgt := 56) E dX12_atom_46 (by decide) (fun _ => ?_) (fun _ => ?_)
      · refine lv_aload_n hx hb dX12_atom_56 rfl (lv_at hl 0 rfl) ?_
        refine lv_dup hx hb dX12_atom_57 rfl ?_
        refine rx_getI E hw on kF_R_184_11 (by decide) dX12_atom_58 ?_
        refine lv_iconst (v := 1) hx hb dX12_atom_61 (by decide) ?_
        refine lv_iadd hx hb dX12_atom_62 ?_
        refine rx_putI E hw on kF_R_184_11 (by decide) kT_11_13 dX12_atom_63 (fun H locs hw => ?_)
        refine lv_iconst (v := 0) hx hb dX12_atom_66 (by decide) ?_
        refine lv_istore_n (lv' := [(3, .int 0), (0, .ref (g_r G)), (1, .int x1), (2, .int x2)]) hx hb dX12_atom_67 rfl hl (by decide) rfl (fun ls hl => ?_)
        refine lv_iload_n hx hb dX12_atom_68 rfl (lv_at hl 3 rfl) ?_
        refine cx_if_eq (tgt := 88) E dX12_atom_69 (by decide) (fun _ => ?_) (fun _ => ?_)
        · refine lv_aload_n hx hb dX12_atom_88 rfl (lv_at hl 1 rfl) ?_
          refine lv_dup hx hb dX12_atom_89 rfl ?_
          refine rx_getI E hw on kF_R_79_11 (by decide) dX12_atom_90 ?_
          refine lv_iconst (v := 1) hx hb dX12_atom_93 (by decide) ?_
          refine lv_iadd hx hb dX12_atom_94 ?_
          refine rx_putI E hw on kF_R_79_11 (by decide) kT_11_11 dX12_atom_95 (fun H locs hw => ?_)
          refine lv_aload_n hx hb dX12_atom_98 rfl (lv_at hl 1 rfl) ?_
          refine W_bind fun z6 hz => ?_
          refine w_after (cells1 := 0) (slots1 := 0) (w_runV E kV_R_242 kc_X12_some (t_R_some l hfl G on N (f_R_atom N d) d ihd M (r_set (r_set r 13 ((r.1 13) + 1)) 11 (((r_set r 13 ((r.1 13) + 1)).1 11) + 1)) ((fun z => (.inl (some (.int z.1)), M, z.2)) z6) (by rw [hz]; rfl)) ⟨by show 60 + 12 * d + 2 + 1 ≤ 60 + 12 * (d + 1) + 0; omega, by show 8 + (3 + 11) + (3000 + 400 * d + 120) ≤ 3000 + 400 * (d + 1) + 0; omega⟩ hw (w_recvR E hw on) rfl hl.1 rfl (Nat.le_of_ble_eq_true rfl) dX12_atom_99 ⟨Nat.le_refl _, Nat.le_refl _⟩) hw rfl (Nat.le_refl _) (Nat.le_refl _) (fun H locs hw => ?_)
          refine W.eq (g2 := F0 m 102 ls [.int z6.1]) rfl ?_
          have hw : w_W G M z6.2 s H locs := hw
          refine lv_istore_n (lv' := [(3, .int z6.1), (0, .ref (g_r G)), (1, .int x1), (2, .int x2)]) hx hb dX12_atom_102 rfl hl (by decide) rfl (fun ls hl => ?_)
          refine lv_aload_n hx hb dX12_atom_103 rfl (lv_at hl 1 rfl) ?_
          refine rx_getI E hw on kF_R_25_11 (by decide) dX12_atom_104 ?_
          refine lv_iconst (v := (-1)) hx hb dX12_atom_107 (by decide) ?_
          refine cx_icmp_ne (tgt := 128) E dX12_atom_108 (by decide) (fun _ => ?_) (fun _ => ?_)
          · exact w128  z6.1 z6.2 _ _ _ hw (lv_sub hl [1, 0] rfl)
          · refine lv_aload_n hx hb dX12_atom_111 rfl (lv_at hl 1 rfl) ?_
            refine lv_bipush (v := 41) hx hb dX12_atom_112 (by decide) ?_
            refine W_bind fun z7 hz => ?_
            refine w_after (cells1 := 0) (slots1 := 0) (w_runV E kV_R_193 kc_X12_isSign (t_R_isSign l hfl G on N 41 M z6.2 ((fun z => (.inl (some (.int z.1)), M, z.2)) z7) (by rw [hz]; rfl)) ⟨by show 2 + 1 ≤ 60 + 12 * (d + 1) + 0; omega, by show 8 + (2 + 11) + (41) ≤ 3000 + 400 * (d + 1) + 0; omega⟩ hw (w_recvR E hw on) rfl hl.1 rfl (Nat.le_of_ble_eq_true rfl) dX12_atom_114 ⟨Nat.le_refl _, Nat.le_refl _⟩) hw rfl (Nat.le_refl _) (Nat.le_refl _) (fun H locs hw => ?_)
            refine W.eq (g2 := F0 m 117 ls [.int z7.1]) rfl ?_
            have hw : w_W G M z7.2 s H locs := hw
            refine cx_if_ne (tgt := 128) E dX12_atom_117 (by decide) (fun _ => ?_) (fun _ => ?_)
            · exact w128  z6.1 z7.2 _ _ _ hw (lv_sub hl [1, 0] rfl)
            · refine lv_aload_n hx hb dX12_atom_120 rfl (lv_at hl 1 rfl) ?_
              refine lv_aload_n hx hb dX12_atom_121 rfl (lv_at hl 1 rfl) ?_
              refine rx_getI E hw on kF_R_79_11 (by decide) dX12_atom_122 ?_
              refine W_bind fun z8 hz => ?_
              refine w_after (cells1 := 0) (slots1 := 0) (w_runV E kV_R_105 kc_X12_wrong (t_R_wrong l hfl G on (z7.2.1 11) M z7.2 ((fun z => (.inl none, M, z)) z8) (by rw [hz]; rfl)) ⟨by show 0 + 1 ≤ 60 + 12 * (d + 1) + 0; omega, by show 8 + (2 + 11) + (0) ≤ 3000 + 400 * (d + 1) + 0; omega⟩ hw (w_recvR E hw on) rfl hl.1 rfl (Nat.le_of_ble_eq_true rfl) dX12_atom_125 ⟨Nat.le_refl _, Nat.le_refl _⟩) hw rfl (Nat.le_refl _) (Nat.le_refl _) (fun H locs hw => ?_)
              refine W.eq (g2 := F0 m 128 ls []) rfl ?_
              have hw : w_W G M z8 s H locs := hw
              exact w128  z6.1 z8 _ _ _ hw (lv_sub hl [1, 0] rfl)
        · refine lv_aload_n hx hb dX12_atom_72 rfl (lv_at hl 1 rfl) ?_
          refine W_bind fun z9 hz => ?_
          refine w_after (cells1 := 0) (slots1 := 0) (w_runV E kV_R_239 kc_X12_atom (ihd M (r_set r 13 ((r.1 13) + 1)) ((fun z => (.inl (some (.int z.1)), M, z.2)) z9) (by rw [hz]; rfl)) ⟨by show 60 + 12 * d + 0 + 1 ≤ 60 + 12 * (d + 1) + 0; omega, by show 8 + (4 + 11) + (3000 + 400 * d + 0) ≤ 3000 + 400 * (d + 1) + 0; omega⟩ hw (w_recvR E hw on) rfl hl.1 rfl (Nat.le_of_ble_eq_true rfl) dX12_atom_73 ⟨Nat.le_refl _, Nat.le_refl _⟩) hw rfl (Nat.le_refl _) (Nat.le_refl _) (fun H locs hw => ?_)
          refine W.eq (g2 := F0 m 76 ls [.int z9.1]) rfl ?_
          have hw : w_W G M z9.2 s H locs := hw
          refine cx_if_ne (tgt := 83) E dX12_atom_76 (by decide) (fun _ => ?_) (fun _ => ?_)
          · refine lv_iconst (v := 0) hx hb dX12_atom_83 (by decide) ?_
            exact w84  0 z9.2 _ _ _ hw (lv_sub hl [1] rfl)
          · refine lv_iconst (v := 1) hx hb dX12_atom_79 (by decide) ?_
            refine lv_goto (tgt := 84) hx hb dX12_atom_80 (by decide) ?_
            exact w84  1 z9.2 _ _ _ hw (lv_sub hl [1] rfl)
      · refine lv_aload_n hx hb dX12_atom_49 rfl (lv_at hl 0 rfl) ?_
        refine lv_iload_n hx hb dX12_atom_50 rfl (lv_at hl 1 rfl) ?_
        refine W_bind fun z10 hz => ?_
        refine w_after (cells1 := 0) (slots1 := 0) (w_runV E kV_R_105 kc_X12_wrong (t_R_wrong l hfl G on x1 M r ((fun z => (.inl none, M, z)) z10) (by rw [hz]; rfl)) ⟨by show 0 + 1 ≤ 60 + 12 * (d + 1) + 0; omega, by show 8 + (2 + 11) + (0) ≤ 3000 + 400 * (d + 1) + 0; omega⟩ hw (w_recvR E hw on) rfl hl.1 rfl (Nat.le_of_ble_eq_true rfl) dX12_atom_51 ⟨Nat.le_refl _, Nat.le_refl _⟩) hw rfl (Nat.le_refl _) (Nat.le_refl _) (fun H locs hw => ?_)
        refine W.eq (g2 := F0 m 54 ls []) rfl ?_
        have hw : w_W G M z10 s H locs := hw
        refine lv_iconst (v := 0) hx hb dX12_atom_54 (by decide) ?_
        exact p_zret E hw hr (by decide) (Nat.le_of_ble_eq_true rfl) (Nat.le_of_ble_eq_true rfl) rfl dX12_atom_55
    rw [f_R_atom]
    refine lv_aload_n hx hb dX12_atom_0 rfl (lv_at hl 0 rfl) ?_
    refine rx_getI E hw on kF_R_25_11 (by decide) dX12_atom_1 ?_
    refine lv_iconst (v := (-1)) hx hb dX12_atom_4 (by decide) ?_
    refine cx_icmp_eq (tgt := 10) E dX12_atom_5 (by decide) (fun _ => ?_) (fun _ => ?_)
    · refine lv_aload_n hx hb dX12_atom_10 rfl (lv_at hl 0 rfl) ?_
      refine W_bind fun z1 hz => ?_
      refine w_after (cells1 := 0) (slots1 := 0) (w_runV E kV_R_109 kc_X12_place (t_R_place l hfl G on N M r ((fun z => (.inl (some (.int z.1)), M, z.2)) z1) (by rw [hz]; rfl)) ⟨by show 2 + 1 ≤ 60 + 12 * (d + 1) + 0; omega, by show 8 + (1 + 11) + (41) ≤ 3000 + 400 * (d + 1) + 0; omega⟩ hw (w_recvR E hw on) rfl hl.1 rfl (Nat.le_of_ble_eq_true rfl) dX12_atom_11 ⟨Nat.le_refl _, Nat.le_refl _⟩) hw rfl (Nat.le_refl _) (Nat.le_refl _) (fun H locs hw => ?_)
      refine W.eq (g2 := F0 m 14 ls [.int z1.1]) rfl ?_
      have hw : w_W G M z1.2 s H locs := hw
      refine lv_istore_n (lv' := [(1, .int z1.1), (0, .ref (g_r G))]) hx hb dX12_atom_14 rfl hl (by decide) rfl (fun ls hl => ?_)
      refine lv_aload_n hx hb dX12_atom_15 rfl (lv_at hl 1 rfl) ?_
      refine va_ldcS hx hb hown (hTT.2.2.1 49 _ rfl) dX12_atom_16 ?_
      refine W_bind fun z2 hz => ?_
      refine w_after (cells1 := 0) (slots1 := 0) (w_runV E kV_R_101 kc_X12_has_ (t_R_has_ l hfl G on N 49 M z1.2 ((fun z => (.inl (some (.int z.1)), M, z.2)) z2) (by rw [hz]; rfl)) ⟨by show 8 + 1 ≤ 60 + 12 * (d + 1) + 0; omega, by show 8 + (4 + 11) + (400) ≤ 3000 + 400 * (d + 1) + 0; omega⟩ hw (w_recvR E hw on) rfl hl.1 rfl (Nat.le_of_ble_eq_true rfl) dX12_atom_18 ⟨Nat.le_refl _, Nat.le_refl _⟩) hw rfl (Nat.le_refl _) (Nat.le_refl _) (fun H locs hw => ?_)
      refine W.eq (g2 := F0 m 21 ls [.int z2.1]) rfl ?_
      have hw : w_W G M z2.2 s H locs := hw
      refine lv_istore_n (lv' := [(2, .int z2.1), (1, .int z1.1), (0, .ref (g_r G))]) hx hb dX12_atom_21 rfl hl (by decide) rfl (fun ls hl => ?_)
      refine lv_iload_n hx hb dX12_atom_22 rfl (lv_at hl 0 rfl) ?_
      refine cx_if_ne (tgt := 40) E dX12_atom_23 (by decide) (fun _ => ?_) (fun _ => ?_)
      · exact w40  z1.1 z2.1 z2.2 _ _ _ hw (lv_sub hl [2, 1, 0] rfl)
      · refine lv_aload_n hx hb dX12_atom_26 rfl (lv_at hl 2 rfl) ?_
        refine lv_bipush (v := 40) hx hb dX12_atom_27 (by decide) ?_
        refine W_bind fun z3 hz => ?_
        refine w_after (cells1 := 0) (slots1 := 0) (w_runV E kV_R_193 kc_X12_isSign (t_R_isSign l hfl G on N 40 M z2.2 ((fun z => (.inl (some (.int z.1)), M, z.2)) z3) (by rw [hz]; rfl)) ⟨by show 2 + 1 ≤ 60 + 12 * (d + 1) + 0; omega, by show 8 + (2 + 11) + (41) ≤ 3000 + 400 * (d + 1) + 0; omega⟩ hw (w_recvR E hw on) rfl hl.1 rfl (Nat.le_of_ble_eq_true rfl) dX12_atom_29 ⟨Nat.le_refl _, Nat.le_refl _⟩) hw rfl (Nat.le_refl _) (Nat.le_refl _) (fun H locs hw => ?_)
        refine W.eq (g2 := F0 m 32 ls [.int z3.1]) rfl ?_
        have hw : w_W G M z3.2 s H locs := hw
        refine cx_if_ne (tgt := 40) E dX12_atom_32 (by decide) (fun _ => ?_) (fun _ => ?_)
        · exact w40  z1.1 z2.1 z3.2 _ _ _ hw (lv_sub hl [2, 1, 0] rfl)
        · refine lv_aload_n hx hb dX12_atom_35 rfl (lv_at hl 2 rfl) ?_
          refine W_bind fun z4 hz => ?_
          refine w_after (cells1 := 0) (slots1 := 0) (w_runV E kV_R_235 kc_X12_plain (t_R_plain l hfl G on N M z3.2 ((fun z => (.inl (some (.int z.1)), M, z.2)) z4) (by rw [hz]; rfl)) ⟨by show 11 + 1 ≤ 60 + 12 * (d + 1) + 0; omega, by show 8 + (4 + 11) + (465) ≤ 3000 + 400 * (d + 1) + 0; omega⟩ hw (w_recvR E hw on) rfl hl.1 rfl (Nat.le_of_ble_eq_true rfl) dX12_atom_36 ⟨Nat.le_refl _, Nat.le_refl _⟩) hw rfl (Nat.le_refl _) (Nat.le_refl _) (fun H locs hw => ?_)
          refine W.eq (g2 := F0 m 39 ls [.int z4.1]) rfl ?_
          have hw : w_W G M z4.2 s H locs := hw
          refine W_bind fun z5 hz => ?_
          obtain ⟨rfl, hz0⟩ := zg_ok hz
          exact p_zret E hw hr hz0 (Nat.le_of_ble_eq_true rfl) (Nat.le_of_ble_eq_true rfl) rfl dX12_atom_39
    · refine lv_iconst (v := 0) hx hb dX12_atom_8 (by decide) ?_
      exact p_zret E hw hr (by decide) (Nat.le_of_ble_eq_true rfl) (Nat.le_of_ble_eq_true rfl) rfl dX12_atom_9
