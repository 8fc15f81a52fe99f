theorem kN_L_8 : NewOK "CheekTownLaw" 8 10 := ⟨RX11, TX11, 11, tyX11, by decide, rfl, rfl, inX11, tyX11_ok, by decide +kernel, tb1 30 (by decide +kernel) (by decide +kernel), tb1 31 (by decide +kernel) (by decide +kernel), tb1 1 (by decide +kernel) (by decide +kernel)⟩
theorem kN_L_117 : NewOK "CheekTownLaw" 117 11 := ⟨RX12, TX12, 27, tyX12, by decide, rfl, rfl, inX12, tyX12_ok, by decide +kernel, tb6 233 (by decide +kernel) (by decide +kernel), tb6 234 (by decide +kernel) (by decide +kernel), tb1 10 (by decide +kernel) (by decide +kernel)⟩
theorem kI_L_116 : CallI "CheekTownLaw" 116 yX11_init := ⟨rfl, tb1 32 (by decide +kernel) (by decide +kernel), tb1 33 (by decide +kernel) (by decide +kernel)⟩
theorem kc_X11_init : CodeOK yX11_init cX11_init 2 none 0 := ⟨tb1 34 (by decide +kernel) (by decide +kernel), tb1 1 (by decide +kernel) (by decide +kernel), by decide +kernel⟩
theorem kI_L_119 : CallI "CheekTownLaw" 119 yX12_init := ⟨rfl, tb6 235 (by decide +kernel) (by decide +kernel), tb6 236 (by decide +kernel) (by decide +kernel)⟩
theorem kc_X12_init : CodeOK yX12_init cX12_init 1 none 0 := ⟨tb6 237 (by decide +kernel) (by decide +kernel), tb1 10 (by decide +kernel) (by decide +kernel), by decide +kernel⟩
theorem kAC_J : Cond.arrayClass .long ∈ wTB := tb9 92 (by decide +kernel) (by decide +kernel)
/-! the law from its start -/
def g_on1 (G : wG) (a : Nat) : wG := (G.1, G.2.1, G.2.2.1, (a, true), G.2.2.2.2.1, G.2.2.2.2.2)
theorem w_E_on {G : wG} {p : Program} {l : Launch} {s : State} {m : MethodId} {args : Array Value} {meth : Method} {c : Code} {cc : ByteArray} {own : String} {nL : Nat} (a : Nat) (E : wE G p l s m args meth c cc own nL) : wE (g_on1 G a) p l s m args meth c cc own nL := E
theorem w_H_off {G : wG} {a : Nat} {M : Mem} {r : Rho} {H : Heap} (hoff : g_on G = false) (h : w_H (g_on1 G a) M r H) : w_H G M r H :=
  ⟨h.1, h.2.1, h.2.2.1, fun on => by rw [hoff] at on; cases on⟩
theorem w_fs_rows {iv : Nat → Int32} {rv rv' : Nat → Option Nat} {ci : Nat} (h : ∀ j, w_rk ci j = true → rv j = rv' j) : w_fs iv rv ci = w_fs iv rv' ci := by
  unfold w_fs
  refine List.map_congr_left fun j _ => ?_
  unfold w_fv
  by_cases hj : w_rk ci j = true
  · rw [if_pos hj, if_pos hj, h j hj]
  · rw [if_neg hj, if_neg hj]
theorem w_H_on {G : wG} {a : Nat} {M : Mem} {r : Rho} {H : Heap} (h : w_H G M r H) (F : FL a M) : w_H (g_on1 G a) (flM a M) (flR a M) H := by
  obtain ⟨h1, h2, h3, -⟩ := h
  obtain ⟨f1, f2, f3⟩ := F
  have hout : ∀ b, (m_kd (flM a M) b).1 ≠ 0 → m_kd (flM a M) b = m_kd M b := fun b hb => by
    show (if a ≤ b ∧ b < a + 15 then (0, 0) else m_kd M b) = m_kd M b
    by_cases hc : a ≤ b ∧ b < a + 15
    · exact absurd (show (m_kd (flM a M) b).1 = 0 by show (if a ≤ b ∧ b < a + 15 then ((0, 0) : Nat × Nat) else m_kd M b).1 = 0; rw [if_pos hc]) hb
    · rw [if_neg hc]
  refine ⟨h1, fun b hb => h2 b (by rw [← hout b hb]; exact hb), fun b e9 he => ?_, fun _ => ⟨(h2 a (by rw [f1]; decide)).1, ?_, fun k hk => ?_, ?_, fun j hj => ?_⟩⟩
  · have hb := w_ce_0 he
    have h9 : w_ce G (flM a M) b = w_ce G M b := w_ce_eq (hout b hb) rfl rfl rfl
    exact h3 b e9 (h9.symm.trans he)
  · have h9 := f3 25 (by decide)
    have h8 := (h2 (a + r_off 25) (by rw [h9]; exact Nat.one_ne_zero)).2
    exact h8
  · show (if a ≤ a + k ∧ a + k < a + 15 then ((0, 0) : Nat × Nat) else m_kd M (a + k)).1 = 0
    rw [if_pos ⟨by omega, by omega⟩]
  · have h9 := h3 a _ (w_ce_o (G := G) (M := M) (a := a) (ci := 11) (by decide) f1)
    rw [w_fs_rows (rv' := fun j => some (a + r_off j)) f2] at h9
    exact h9
  · have h9 := f3 j hj
    have h8 := h3 (a + r_off j) _ (w_ce_i (G := G) (M := M) (a := a + r_off j) (by rw [h9]))
    rw [h9] at h8
    exact h8
section Rs
variable {p : Program} {l : Launch} {e : Env} {s : State} {m : MethodId} {args : Array Value} {below : List Frame} {meth : Method} {c : Code} {G : wG} {b9 N : Nat} {β : Type} {cv : β → Out} {K : Nat × Nat × Nat × Mem → Option β}
set_option maxHeartbeats 4000000 in
set_option maxRecDepth 100000 in
theorem t_L_pre (hfl : l.stackTraces = false) (E : wE G p l s m args meth c cL_law_ "CheekTownLaw" 7) {M : Mem} {r : Rho} {H : Heap} {locs : List Loc} {ls : Array Slot} (hw : w_W G M r s H locs) (hl : lv_has ls 7 [(0, .ref b9)])
    (hk : ∀ (M2 M4 : Mem) (z : Nat × Mem) (H : Heap) (locs : List Loc) (ls : Array Slot), f_CT_init N (m_sz M) (m_new M (20, 0)) = some M2 → f_R_init (m_sz M2) (m_new M2 (21, 0)) = some M4 → nwL M4 1 1 = some z → w_W G z.2 r s H locs → lv_has ls 7 [(4, .int 0), (0, .ref b9), (1, .ref (m_sz M)), (2, .ref (m_sz M2)), (3, .ref z.1)] →
      W p l e room_1 s m args below meth c H locs 644 30522 (PQ G below args s 601024 7293034 cv (K (m_sz M, m_sz M2, z.1, z.2))) (F0 m 23 ls [])) :
    W p l e room_1 s m args below meth c H locs 0 0 (PQ G below args s 601024 7293034 cv (f_L_pre N M K)) (F0 m 0 ls []) := by
  obtain ⟨hx, hb, hts, hown, hml, hTT, -⟩ := id E
  unfold f_L_pre
  refine gx_new E hw kN_L_8 (Nat.le_of_ble_eq_true rfl) (Nat.le_of_ble_eq_true rfl) dL_law__0 (fun H hw => ?_)
  refine W.widen (k := 1) (n := 11) (Nat.le_of_ble_eq_true rfl) (Nat.le_of_ble_eq_true rfl) ?_
  refine lv_dup hx hb dL_law__3 rfl ?_
  refine W_bind fun M2 hz => ?_
  refine w_after (cells1 := 628) (slots1 := 14586) (w_runI E kI_L_116 kc_X11_init (t_CT_init l hfl G N (m_sz M) (m_new M (20, 0)) r ((fun z => (.inl none, z, r)) M2) (by rw [hz]; rfl)) ⟨(Nat.le_of_ble_eq_true rfl), (Nat.le_of_ble_eq_true rfl)⟩ hw rfl hl.1 rfl (Nat.le_of_ble_eq_true rfl) dL_law__4 ⟨(Nat.le_of_ble_eq_true rfl), (Nat.le_of_ble_eq_true rfl)⟩) hw rfl (Nat.le_of_ble_eq_true rfl) (Nat.le_of_ble_eq_true rfl) (fun H locs hw => ?_)
  refine W.eq (g2 := F0 m 7 ls [.ref (m_sz M)]) rfl ?_
  have hw : w_W G M2 r s H locs := hw
  refine lv_astore_n (lv' := [(1, .ref (m_sz M)), (0, .ref b9)]) hx hb dL_law__7 rfl hl (by decide) rfl (fun ls hl => ?_)
  refine gx_new E hw kN_L_117 (Nat.le_of_ble_eq_true rfl) (Nat.le_of_ble_eq_true rfl) dL_law__8 (fun H hw => ?_)
  refine W.widen (k := 629) (n := 14613) (Nat.le_of_ble_eq_true rfl) (Nat.le_of_ble_eq_true rfl) ?_
  refine lv_dup hx hb dL_law__11 rfl ?_
  refine W_bind fun M4 hz4 => ?_
  refine w_after (cells1 := 643) (slots1 := 30521) (w_runI E kI_L_119 kc_X12_init (t_R_init l hfl G (m_sz M2) (m_new M2 (21, 0)) r ((fun z => (.inl none, z, r)) M4) (by rw [hz4]; rfl)) ⟨(Nat.le_of_ble_eq_true rfl), (Nat.le_of_ble_eq_true rfl)⟩ hw rfl hl.1 rfl (Nat.le_of_ble_eq_true rfl) dL_law__12 ⟨(Nat.le_of_ble_eq_true rfl), (Nat.le_of_ble_eq_true rfl)⟩) hw rfl (Nat.le_of_ble_eq_true rfl) (Nat.le_of_ble_eq_true rfl) (fun H locs hw => ?_)
  refine W.eq (g2 := F0 m 15 ls [.ref (m_sz M2)]) rfl ?_
  have hw : w_W G M4 r s H locs := hw
  refine lv_astore_n (lv' := [(2, .ref (m_sz M2)), (1, .ref (m_sz M)), (0, .ref b9)]) hx hb dL_law__15 rfl hl (by decide) rfl (fun ls hl => ?_)
  refine lv_iconst (v := 1) hx hb dL_law__16 (by decide) ?_
  refine gx_newL E hw (Nat.le_of_ble_eq_true rfl) kAC_J (Nat.le_of_ble_eq_true rfl) (Nat.le_of_ble_eq_true rfl) dL_law__17 (fun z H h5 _ hw => ?_)
  refine W.widen (k := 644) (n := 30522) (Nat.le_of_ble_eq_true rfl) (Nat.le_of_ble_eq_true rfl) ?_
  refine lv_astore_n (lv' := [(3, .ref z.1), (2, .ref (m_sz M2)), (1, .ref (m_sz M)), (0, .ref b9)]) hx hb dL_law__19 rfl hl (by decide) rfl (fun ls hl => ?_)
  refine lv_iconst (v := 0) hx hb dL_law__20 (by decide) ?_
  refine lv_istore (lv' := [(4, .int 0), (3, .ref z.1), (2, .ref (m_sz M2)), (1, .ref (m_sz M)), (0, .ref b9)]) hx hb dL_law__21 hl (by decide) rfl (fun ls hl => ?_)
  exact hk M2 M4 z _ _ _ hz hz4 h5 hw (lv_sub hl [0, 4, 3, 2, 1] rfl)
end Rs
set_option maxHeartbeats 4000000 in
theorem whole_of {p : Program} {e : Env} {s : State} {m : MethodId} {below : List Frame} {meth : Method} {c : Code} (l : Launch) (hflags : l.flags = flags0) {b L : Nat} {xs : Nat → Int32} (hL : L ≤ 3072) (C0 : lw_At p s m meth c b L xs)
    (N : Nat) (hFL : ∀ M2 M4 z, f_R_init (m_sz M2) (m_new M2 (21, 0)) = some M4 → nwL M4 1 1 = some z → FL (m_sz M2) z.2) (hall : ∀ n : Nat, ∃ z, f_law N xs L (m_0 n) = some z) :
    W p l e room_1 s m #[Value.ref b] below meth c s.heap [] 0 0 (lw_Z below #[Value.ref b] s) (entryFrame m ([Value.ref b] : List Value).toArray 7) := by
  obtain ⟨G, hlo, hoff, E⟩ := w_entry l hflags C0
  obtain ⟨hx, hb, hr, hml, hown, hts0, hX, hbl, hlocks, hgv⟩ := id C0
  have hfl : l.stackTraces = false := E.2.2.2.2.2.2.2.2.2
  have hbA : ¬ g_A G b := by
    show ¬ g_lo G ≤ b
    rw [hlo]
    exact Nat.not_le.mpr hbl
  obtain ⟨z9, hz9⟩ := hall s.heap.size
  have hw : w_W G (m_0 s.heap.size) (fun _ => 0, fun _ _ => 0) s s.heap [] := by
    refine ⟨⟨rfl, fun a h => absurd rfl h, fun a e9 h => ?_, fun on => by rw [hoff] at on; cases on⟩, va_S.rf⟩
    exact absurd rfl (w_ce_0 h)
  have hl := lv_entry ([.ref b]) (n := 7) (Nat.le_of_ble_eq_true rfl)
  rw [lg_entry_eq]
  generalize (lg_sl ([.ref b]) ++ List.replicate (7 - (lg_sl ([.ref b])).length) Slot.unset).toArray = ls at hl ⊢
  have hl : lv_has ls 7 [(0, .ref b)] := hl
  have K : W p l e room_1 s m #[Value.ref b] below meth c s.heap [] 0 0 (PQ G below #[Value.ref b] s 601024 7293034 (fun z : Mem × Rho => (.inl (some (.int 1)), z)) (f_law N xs L (m_0 s.heap.size))) (F0 m 0 ls []) := by
    refine t_L_pre hfl E hw hl (fun M2 M4 z H locs ls h2 h4 h5 hw hl => ?_)
    have hF := hFL M2 M4 z h4 h5
    have hw1 : w_W (g_on1 G (m_sz M2)) (flM (m_sz M2) z.2) (flR (m_sz M2) z.2) s H locs := ⟨w_H_on hw.1 hF, hw.2⟩
    have k := t_L_loop (e := e) (below := below) (N := N) (x9 := s.heap.size) (o9 := z.1) hfl rfl (w_E_on (m_sz M2) E) hr hX hbl hbA 513 0 _ _ H locs ls 644 30522 (by decide) (by decide) hw1 hl
    intro T hT Y
    obtain ⟨t, a1, a2⟩ := k T hT Y
    refine ⟨t, a1, fun z8 h8 => ?_⟩
    obtain ⟨o, b1, b2, b3⟩ := a2 z8 h8
    refine ⟨o, b1, b2, ?_⟩
    rcases b3 with ⟨⟨c1, c2, c3⟩, c4⟩ | ⟨q, c1, E8, ce, L8, ⟨c2, -⟩, -⟩
    · exact Or.inl ⟨⟨c1, w_H_off hoff c2, c3⟩, c4⟩
    · cases c2
  intro T hT Y
  obtain ⟨t, a1, a2⟩ := K T hT Y
  obtain ⟨o, b1, b2, b3⟩ := a2 z9 hz9
  refine ⟨t, a1, o, b1, b2, ?_⟩
  rcases b3 with ⟨⟨⟨v, c1, c2⟩, -, -⟩, L8, ⟨c3, c4, c5⟩, c6⟩ | ⟨q, c1, E8, ce, L8, ⟨c2, -⟩, -⟩
  · cases c1
    refine ⟨c2, c3, c4, c5.weaken (fun y hy hlt => ?_) (Nat.le_refl _) (Nat.le_refl _)⟩
    have h9 := c6 y hy
    have h8 : g_lo G ≤ y.base := h9
    rw [hlo] at h8
    exact absurd hlt (Nat.not_lt.mpr h8)
  · cases c2

