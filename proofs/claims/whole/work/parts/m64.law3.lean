set_option maxHeartbeats 4000000 in
set_option maxRecDepth 100000 in
theorem t_L_c30 {p : Program} {l : Launch} {e : Env} {s : State} {m : MethodId} {args : Array Value} {below : List Frame} {meth : Method} {c : Code} {H : Heap} {locs : List Loc} {ls : Array Slot} {G : wG} {M : Mem} {r : Rho} {xs : Nat → Int32} {L b9 x9 o9 c9 d9 N : Nat} {i9 : Int32} {kk : Mem → Rho → Option (Mem × Rho)} (hfl : l.stackTraces = false) (on : g_on G = true) (E : wE G p l s m args meth c cL_law_ "CheekTownLaw" 7) (hX : va_X b9 L xs s s.heap) (hbl : b9 < s.heap.size) (hbA : ¬ g_A G b9) (hw : w_W G M r s H locs) (hl : lv_has ls 7 [(4, .int i9), (0, .ref b9), (1, .ref x9), (2, .ref (g_r G)), (3, .ref o9)]) (hc : c9 + 8 ≤ 601024) (hd : d9 + 900 ≤ 7293034) (hk : ∀ (M : Mem) (r : Rho) (H : Heap) (locs : List Loc) (ls : Array Slot), w_W G M r s H locs → lv_has ls 7 [(4, .int i9), (0, .ref b9), (1, .ref x9), (2, .ref (g_r G)), (3, .ref o9)] → W p l e room_1 s m args below meth c H locs (c9 + 8) (d9 + 900) (PQ G below args s 601024 7293034 (fun z : Mem × Rho => (.inl (some (.int 1)), z)) (kk M r)) (F0 m 2675 ls [])) : W p l e room_1 s m args below meth c H locs c9 d9 (PQ G below args s 601024 7293034 (fun z : Mem × Rho => (.inl (some (.int 1)), z)) (f_L_c30 N xs L x9 o9 i9 M r kk)) (F0 m 2042 ls []) := by
  obtain ⟨hx, hb, hts, hown, hml, hTT, -⟩ := id E
  unfold f_L_c30
  refine lv_aload_n hx hb dL_law__2042 rfl (lv_at hl 2 rfl) ?_
  refine lv_aload_n hx hb dL_law__2043 rfl (lv_at hl 1 rfl) ?_
  refine lv_iload hx hb dL_law__2044 (lv_at hl 0 rfl) ?_
  refine lv_iconst (v := 1) hx hb dL_law__2046 (by decide) ?_
  refine lv_iadd hx hb dL_law__2047 ?_
  refine gx_sld E hw hX hbl hbA dL_law__2048 (fun v1 => ?_)
  refine lv_aload_n hx hb dL_law__2049 rfl (lv_at hl 1 rfl) ?_
  refine lv_iload hx hb dL_law__2050 (lv_at hl 0 rfl) ?_
  refine lv_iconst (v := 2) hx hb dL_law__2052 (by decide) ?_
  refine lv_iadd hx hb dL_law__2053 ?_
  refine gx_sld E hw hX hbl hbA dL_law__2054 (fun v2 => ?_)
  refine lv_aload_n hx hb dL_law__2055 rfl (lv_at hl 4 rfl) ?_
  refine W_bind fun z3 hz => ?_
  refine w_after (cells1 := c9 + 2) (slots1 := d9 + 12) (w_runSH E kS_L_230 kcH_L_custom (t_L_custom l hfl G N x9 v1 v2 o9 M r ((fun z => (.inl (some (.int z.1)), z.2, r)) z3) (by rw [hz]; rfl)) ⟨Nat.le_of_ble_eq_true rfl, Nat.le_of_ble_eq_true rfl⟩ hw rfl hl.1 rfl (Nat.le_of_ble_eq_true rfl) dL_law__2056 ⟨by show c9 + 0 + 2 ≤ 601024; omega, by show d9 + 0 + 12 ≤ 7293034; omega⟩) hw rfl (by show c9 + 0 + 2 ≤ c9 + 2; omega) (by show d9 + 0 + 12 ≤ d9 + 12; omega) (fun H locs hw => ?_)
  refine W.eq (g2 := F0 m 2059 ls [.int z3.1]) rfl ?_
  have hw : w_W G z3.2 r s H locs := hw
  refine lv_istore (lv' := [(5, .int z3.1), (4, .int i9), (0, .ref b9), (1, .ref x9), (2, .ref (g_r G)), (3, .ref o9)]) hx hb dL_law__2059 hl (by decide) rfl (fun ls hl => ?_)
  refine lv_aload_n hx hb dL_law__2061 rfl (lv_at hl 4 rfl) ?_
  refine lv_aload_n hx hb dL_law__2062 rfl (lv_at hl 2 rfl) ?_
  refine lv_iload hx hb dL_law__2063 (lv_at hl 1 rfl) ?_
  refine lv_iconst (v := 1) hx hb dL_law__2065 (by decide) ?_
  refine lv_iadd hx hb dL_law__2066 ?_
  refine gx_sld E hw hX hbl hbA dL_law__2067 (fun v4 => ?_)
  refine lv_aload_n hx hb dL_law__2068 rfl (lv_at hl 2 rfl) ?_
  refine lv_iload hx hb dL_law__2069 (lv_at hl 1 rfl) ?_
  refine lv_iconst (v := 2) hx hb dL_law__2071 (by decide) ?_
  refine lv_iadd hx hb dL_law__2072 ?_
  refine gx_sld E hw hX hbl hbA dL_law__2073 (fun v5 => ?_)
  refine W_bind fun z6 hz => ?_
  refine w_after (cells1 := c9 + 2) (slots1 := d9 + 12) (w_runV E kV_L_232 kc_X12_custom (t_R_custom l hfl G on N v4 v5 z3.2 r ((fun z => (.inl (some (.int z.1)), z3.2, z.2)) z6) (by rw [hz]; rfl)) ⟨Nat.le_of_ble_eq_true rfl, Nat.le_of_ble_eq_true rfl⟩ hw (w_recvR E hw on) rfl hl.1 rfl (Nat.le_of_ble_eq_true rfl) dL_law__2074 ⟨by show c9 + 2 + 0 ≤ 601024; omega, by show d9 + 12 + 0 ≤ 7293034; omega⟩) hw rfl (by show c9 + 2 + 0 ≤ c9 + 2; omega) (by show d9 + 12 + 0 ≤ d9 + 12; omega) (fun H locs hw => ?_)
  refine W.eq (g2 := F0 m 2077 ls [.int z6.1]) rfl ?_
  have hw : w_W G z3.2 z6.2 s H locs := hw
  refine lv_istore (lv' := [(6, .int z6.1), (5, .int z3.1), (4, .int i9), (0, .ref b9), (1, .ref x9), (2, .ref (g_r G)), (3, .ref o9)]) hx hb dL_law__2077 hl (by decide) rfl (fun ls hl => ?_)
  refine lv_aload_n hx hb dL_law__2079 rfl (lv_at hl 5 rfl) ?_
  refine W_bind fun z7 hz => ?_
  refine w_after (cells1 := c9 + 2) (slots1 := d9 + 12) (w_runV E kV_L_136 kc_X12_thrown (t_R_thrown l hfl G on z3.2 z6.2 ((fun z => (.inl (some (.int z)), z3.2, z6.2)) z7) (by rw [hz]; rfl)) ⟨Nat.le_of_ble_eq_true rfl, Nat.le_of_ble_eq_true rfl⟩ hw (w_recvR E hw on) rfl hl.1 rfl (Nat.le_of_ble_eq_true rfl) dL_law__2080 ⟨by show c9 + 2 + 0 ≤ 601024; omega, by show d9 + 12 + 0 ≤ 7293034; omega⟩) hw rfl (by show c9 + 2 + 0 ≤ c9 + 2; omega) (by show d9 + 12 + 0 ≤ d9 + 12; omega) (fun H locs hw => ?_)
  refine W.eq (g2 := F0 m 2083 ls [.int z7]) rfl ?_
  have hw : w_W G z3.2 z6.2 s H locs := hw
  refine lv_iload hx hb dL_law__2083 (lv_at hl 1 rfl) ?_
  refine cx_icmp_eq (tgt := 2090) E dL_law__2085 (by decide) (fun _ => ?_) (fun _ => ?_)
  · refine lv_iload hx hb dL_law__2090 (lv_at hl 1 rfl) ?_
    refine cx_if_ne (tgt := 2107) E dL_law__2092 (by decide) (fun _ => ?_) (fun _ => ?_)
    · refine lv_goto (tgt := 2675) hx hb dL_law__2107 (by decide) ?_
      refine W.widen (k := c9 + 8) (n := d9 + 900) (by omega) (by omega) ?_
      exact hk z3.2 z6.2 _ _ _ hw (lv_sub hl [2, 3, 4, 5, 6] rfl)
    · refine lv_aload_n hx hb dL_law__2095 rfl (lv_at hl 6 rfl) ?_
      refine lv_iconst (v := 0) hx hb dL_law__2096 (by decide) ?_
      refine gx_lald E hw dL_law__2097 (fun v8 _ => ?_)
      refine lv_iload hx hb dL_law__2098 (lv_at hl 0 rfl) ?_
      refine lv_i2l (v := Int32.toInt64 z6.1) hx hb dL_law__2100 rfl ?_
      refine W.lcmp hx hb dL_law__2101 ?_
      refine cx_if_eq (tgt := 2107) E dL_law__2102 (by decide) (fun _ => ?_) (fun _ => ?_)
      · refine lv_goto (tgt := 2675) hx hb dL_law__2107 (by decide) ?_
        refine W.widen (k := c9 + 8) (n := d9 + 900) (by omega) (by omega) ?_
        exact hk z3.2 z6.2 _ _ _ hw (lv_sub hl [2, 3, 4, 5, 6] rfl)
      · refine lv_iconst (v := 0) hx hb dL_law__2105 (by decide) ?_
        exact W_none
  · refine lv_iconst (v := 0) hx hb dL_law__2088 (by decide) ?_
    exact W_none
set_option maxHeartbeats 4000000 in
set_option maxRecDepth 100000 in
theorem t_L_c31 {p : Program} {l : Launch} {e : Env} {s : State} {m : MethodId} {args : Array Value} {below : List Frame} {meth : Method} {c : Code} {H : Heap} {locs : List Loc} {ls : Array Slot} {G : wG} {M : Mem} {r : Rho} {xs : Nat → Int32} {L b9 x9 o9 c9 d9 N : Nat} {i9 : Int32} {kk : Mem → Rho → Option (Mem × Rho)} (hfl : l.stackTraces = false) (on : g_on G = true) (E : wE G p l s m args meth c cL_law_ "CheekTownLaw" 7) (hX : va_X b9 L xs s s.heap) (hbl : b9 < s.heap.size) (hbA : ¬ g_A G b9) (hw : w_W G M r s H locs) (hl : lv_has ls 7 [(4, .int i9), (0, .ref b9), (1, .ref x9), (2, .ref (g_r G)), (3, .ref o9)]) (hc : c9 + 8 ≤ 601024) (hd : d9 + 900 ≤ 7293034) (hk : ∀ (M : Mem) (r : Rho) (H : Heap) (locs : List Loc) (ls : Array Slot), w_W G M r s H locs → lv_has ls 7 [(4, .int i9), (0, .ref b9), (1, .ref x9), (2, .ref (g_r G)), (3, .ref o9)] → W p l e room_1 s m args below meth c H locs (c9 + 8) (d9 + 900) (PQ G below args s 601024 7293034 (fun z : Mem × Rho => (.inl (some (.int 1)), z)) (kk M r)) (F0 m 2675 ls [])) : W p l e room_1 s m args below meth c H locs c9 d9 (PQ G below args s 601024 7293034 (fun z : Mem × Rho => (.inl (some (.int 1)), z)) (f_L_c31 N xs L x9 o9 i9 M r kk)) (F0 m 2110 ls []) := by
  obtain ⟨hx, hb, hts, hown, hml, hTT, -⟩ := id E
  unfold f_L_c31
  refine lv_aload_n hx hb dL_law__2110 rfl (lv_at hl 2 rfl) ?_
  refine W_bind fun _ hck => ?_
  refine W_bind fun z1 hz => ?_
  refine w_after (cells1 := c9 + 0) (slots1 := d9 + 0) (w_runV E kV_L_233 kc_X11_still (t_CT_still l hfl G N x9 M r ((fun z => (.inl (some (.int z.1)), z.2, r)) z1) (by rw [hz]; rfl)) ⟨Nat.le_of_ble_eq_true rfl, Nat.le_of_ble_eq_true rfl⟩ hw (w_recv E hw (by decide) ⟨_, _, rfl⟩ (ck_ok hck)) rfl hl.1 rfl (Nat.le_of_ble_eq_true rfl) dL_law__2111 ⟨by show c9 + 0 + 0 ≤ 601024; omega, by show d9 + 0 + 0 ≤ 7293034; omega⟩) hw rfl (by show c9 + 0 + 0 ≤ c9 + 0; omega) (by show d9 + 0 + 0 ≤ d9 + 0; omega) (fun H locs hw => ?_)
  refine W.eq (g2 := F0 m 2114 ls [.int z1.1]) rfl ?_
  have hw : w_W G z1.2 r s H locs := hw
  refine lv_aload_n hx hb dL_law__2114 rfl (lv_at hl 3 rfl) ?_
  refine W_bind fun z2 hz => ?_
  refine w_after (cells1 := c9 + 0) (slots1 := d9 + 0) (w_runV E kV_L_236 kc_X12_still (t_R_still l hfl G on N z1.2 r ((fun z => (.inl (some (.int z.1)), z1.2, z.2)) z2) (by rw [hz]; rfl)) ⟨Nat.le_of_ble_eq_true rfl, Nat.le_of_ble_eq_true rfl⟩ hw (w_recvR E hw on) rfl hl.1 rfl (Nat.le_of_ble_eq_true rfl) dL_law__2115 ⟨by show c9 + 0 + 0 ≤ 601024; omega, by show d9 + 0 + 0 ≤ 7293034; omega⟩) hw rfl (by show c9 + 0 + 0 ≤ c9 + 0; omega) (by show d9 + 0 + 0 ≤ d9 + 0; omega) (fun H locs hw => ?_)
  refine W.eq (g2 := F0 m 2118 ls [.int z2.1, .int z1.1]) rfl ?_
  have hw : w_W G z1.2 z2.2 s H locs := hw
  refine cx_icmp_eq (tgt := 2675) E dL_law__2118 (by decide) (fun _ => ?_) (fun _ => ?_)
  · refine W.widen (k := c9 + 8) (n := d9 + 900) (by omega) (by omega) ?_
    exact hk z1.2 z2.2 _ _ _ hw (lv_sub hl [0, 1, 2, 3, 4] rfl)
  · refine lv_iconst (v := 0) hx hb dL_law__2121 (by decide) ?_
    exact W_none
set_option maxHeartbeats 4000000 in
set_option maxRecDepth 100000 in
theorem t_L_c32 {p : Program} {l : Launch} {e : Env} {s : State} {m : MethodId} {args : Array Value} {below : List Frame} {meth : Method} {c : Code} {H : Heap} {locs : List Loc} {ls : Array Slot} {G : wG} {M : Mem} {r : Rho} {xs : Nat → Int32} {L b9 x9 o9 c9 d9 N : Nat} {i9 : Int32} {kk : Mem → Rho → Option (Mem × Rho)} (hfl : l.stackTraces = false) (on : g_on G = true) (E : wE G p l s m args meth c cL_law_ "CheekTownLaw" 7) (hX : va_X b9 L xs s s.heap) (hbl : b9 < s.heap.size) (hbA : ¬ g_A G b9) (hw : w_W G M r s H locs) (hl : lv_has ls 7 [(4, .int i9), (0, .ref b9), (1, .ref x9), (2, .ref (g_r G)), (3, .ref o9)]) (hc : c9 + 8 ≤ 601024) (hd : d9 + 900 ≤ 7293034) (hk : ∀ (M : Mem) (r : Rho) (H : Heap) (locs : List Loc) (ls : Array Slot), w_W G M r s H locs → lv_has ls 7 [(4, .int i9), (0, .ref b9), (1, .ref x9), (2, .ref (g_r G)), (3, .ref o9)] → W p l e room_1 s m args below meth c H locs (c9 + 8) (d9 + 900) (PQ G below args s 601024 7293034 (fun z : Mem × Rho => (.inl (some (.int 1)), z)) (kk M r)) (F0 m 2675 ls [])) : W p l e room_1 s m args below meth c H locs c9 d9 (PQ G below args s 601024 7293034 (fun z : Mem × Rho => (.inl (some (.int 1)), z)) (f_L_c32 N xs L x9 o9 i9 M r kk)) (F0 m 2123 ls []) := by
  obtain ⟨hx, hb, hts, hown, hml, hTT, -⟩ := id E
  unfold f_L_c32
  refine lv_aload_n hx hb dL_law__2123 rfl (lv_at hl 2 rfl) ?_
  refine lv_aload_n hx hb dL_law__2124 rfl (lv_at hl 1 rfl) ?_
  refine lv_iload hx hb dL_law__2125 (lv_at hl 0 rfl) ?_
  refine lv_iconst (v := 1) hx hb dL_law__2127 (by decide) ?_
  refine lv_iadd hx hb dL_law__2128 ?_
  refine gx_sld E hw hX hbl hbA dL_law__2129 (fun v1 => ?_)
  refine lv_aload_n hx hb dL_law__2130 rfl (lv_at hl 1 rfl) ?_
  refine lv_iload hx hb dL_law__2131 (lv_at hl 0 rfl) ?_
  refine lv_iconst (v := 2) hx hb dL_law__2133 (by decide) ?_
  refine lv_iadd hx hb dL_law__2134 ?_
  refine gx_sld E hw hX hbl hbA dL_law__2135 (fun v2 => ?_)
  refine lv_aload_n hx hb dL_law__2136 rfl (lv_at hl 4 rfl) ?_
  refine W_bind fun z3 hz => ?_
  refine w_after (cells1 := c9 + 2) (slots1 := d9 + 12) (w_runSH E kS_L_237 kcH_L_told (t_L_told l hfl G N x9 v1 v2 o9 M r ((fun z => (.inl (some (.int z.1)), z.2, r)) z3) (by rw [hz]; rfl)) ⟨Nat.le_of_ble_eq_true rfl, Nat.le_of_ble_eq_true rfl⟩ hw rfl hl.1 rfl (Nat.le_of_ble_eq_true rfl) dL_law__2137 ⟨by show c9 + 0 + 2 ≤ 601024; omega, by show d9 + 0 + 12 ≤ 7293034; omega⟩) hw rfl (by show c9 + 0 + 2 ≤ c9 + 2; omega) (by show d9 + 0 + 12 ≤ d9 + 12; omega) (fun H locs hw => ?_)
  refine W.eq (g2 := F0 m 2140 ls [.int z3.1]) rfl ?_
  have hw : w_W G z3.2 r s H locs := hw
  refine lv_istore (lv' := [(5, .int z3.1), (4, .int i9), (0, .ref b9), (1, .ref x9), (2, .ref (g_r G)), (3, .ref o9)]) hx hb dL_law__2140 hl (by decide) rfl (fun ls hl => ?_)
  refine lv_aload_n hx hb dL_law__2142 rfl (lv_at hl 4 rfl) ?_
  refine lv_aload_n hx hb dL_law__2143 rfl (lv_at hl 2 rfl) ?_
  refine lv_iload hx hb dL_law__2144 (lv_at hl 1 rfl) ?_
  refine lv_iconst (v := 1) hx hb dL_law__2146 (by decide) ?_
  refine lv_iadd hx hb dL_law__2147 ?_
  refine gx_sld E hw hX hbl hbA dL_law__2148 (fun v4 => ?_)
  refine lv_aload_n hx hb dL_law__2149 rfl (lv_at hl 2 rfl) ?_
  refine lv_iload hx hb dL_law__2150 (lv_at hl 1 rfl) ?_
  refine lv_iconst (v := 2) hx hb dL_law__2152 (by decide) ?_
  refine lv_iadd hx hb dL_law__2153 ?_
  refine gx_sld E hw hX hbl hbA dL_law__2154 (fun v5 => ?_)
  refine W_bind fun z6 hz => ?_
  refine w_after (cells1 := c9 + 2) (slots1 := d9 + 12) (w_runV E kV_L_239 kc_X12_told (t_R_told l hfl G on N v4 v5 z3.2 r ((fun z => (.inl (some (.int z.1)), z3.2, z.2)) z6) (by rw [hz]; rfl)) ⟨Nat.le_of_ble_eq_true rfl, Nat.le_of_ble_eq_true rfl⟩ hw (w_recvR E hw on) rfl hl.1 rfl (Nat.le_of_ble_eq_true rfl) dL_law__2155 ⟨by show c9 + 2 + 0 ≤ 601024; omega, by show d9 + 12 + 0 ≤ 7293034; omega⟩) hw rfl (by show c9 + 2 + 0 ≤ c9 + 2; omega) (by show d9 + 12 + 0 ≤ d9 + 12; omega) (fun H locs hw => ?_)
  refine W.eq (g2 := F0 m 2158 ls [.int z6.1]) rfl ?_
  have hw : w_W G z3.2 z6.2 s H locs := hw
  refine lv_istore (lv' := [(6, .int z6.1), (5, .int z3.1), (4, .int i9), (0, .ref b9), (1, .ref x9), (2, .ref (g_r G)), (3, .ref o9)]) hx hb dL_law__2158 hl (by decide) rfl (fun ls hl => ?_)
  refine lv_aload_n hx hb dL_law__2160 rfl (lv_at hl 5 rfl) ?_
  refine W_bind fun z7 hz => ?_
  refine w_after (cells1 := c9 + 2) (slots1 := d9 + 12) (w_runV E kV_L_136 kc_X12_thrown (t_R_thrown l hfl G on z3.2 z6.2 ((fun z => (.inl (some (.int z)), z3.2, z6.2)) z7) (by rw [hz]; rfl)) ⟨Nat.le_of_ble_eq_true rfl, Nat.le_of_ble_eq_true rfl⟩ hw (w_recvR E hw on) rfl hl.1 rfl (Nat.le_of_ble_eq_true rfl) dL_law__2161 ⟨by show c9 + 2 + 0 ≤ 601024; omega, by show d9 + 12 + 0 ≤ 7293034; omega⟩) hw rfl (by show c9 + 2 + 0 ≤ c9 + 2; omega) (by show d9 + 12 + 0 ≤ d9 + 12; omega) (fun H locs hw => ?_)
  refine W.eq (g2 := F0 m 2164 ls [.int z7]) rfl ?_
  have hw : w_W G z3.2 z6.2 s H locs := hw
  refine lv_iload hx hb dL_law__2164 (lv_at hl 1 rfl) ?_
  refine cx_icmp_eq (tgt := 2171) E dL_law__2166 (by decide) (fun _ => ?_) (fun _ => ?_)
  · refine lv_iload hx hb dL_law__2171 (lv_at hl 1 rfl) ?_
    refine cx_if_ne (tgt := 2188) E dL_law__2173 (by decide) (fun _ => ?_) (fun _ => ?_)
    · refine lv_goto (tgt := 2675) hx hb dL_law__2188 (by decide) ?_
      refine W.widen (k := c9 + 8) (n := d9 + 900) (by omega) (by omega) ?_
      exact hk z3.2 z6.2 _ _ _ hw (lv_sub hl [2, 3, 4, 5, 6] rfl)
    · refine lv_aload_n hx hb dL_law__2176 rfl (lv_at hl 6 rfl) ?_
      refine lv_iconst (v := 0) hx hb dL_law__2177 (by decide) ?_
      refine gx_lald E hw dL_law__2178 (fun v8 _ => ?_)
      refine lv_iload hx hb dL_law__2179 (lv_at hl 0 rfl) ?_
      refine lv_i2l (v := Int32.toInt64 z6.1) hx hb dL_law__2181 rfl ?_
      refine W.lcmp hx hb dL_law__2182 ?_
      refine cx_if_eq (tgt := 2188) E dL_law__2183 (by decide) (fun _ => ?_) (fun _ => ?_)
      · refine lv_goto (tgt := 2675) hx hb dL_law__2188 (by decide) ?_
        refine W.widen (k := c9 + 8) (n := d9 + 900) (by omega) (by omega) ?_
        exact hk z3.2 z6.2 _ _ _ hw (lv_sub hl [2, 3, 4, 5, 6] rfl)
      · refine lv_iconst (v := 0) hx hb dL_law__2186 (by decide) ?_
        exact W_none
  · refine lv_iconst (v := 0) hx hb dL_law__2169 (by decide) ?_
    exact W_none
set_option maxHeartbeats 4000000 in
set_option maxRecDepth 100000 in
theorem t_L_c33 {p : Program} {l : Launch} {e : Env} {s : State} {m : MethodId} {args : Array Value} {below : List Frame} {meth : Method} {c : Code} {H : Heap} {locs : List Loc} {ls : Array Slot} {G : wG} {M : Mem} {r : Rho} {xs : Nat → Int32} {L b9 x9 o9 c9 d9 N : Nat} {i9 : Int32} {kk : Mem → Rho → Option (Mem × Rho)} (hfl : l.stackTraces = false) (on : g_on G = true) (E : wE G p l s m args meth c cL_law_ "CheekTownLaw" 7) (hX : va_X b9 L xs s s.heap) (hbl : b9 < s.heap.size) (hbA : ¬ g_A G b9) (hw : w_W G M r s H locs) (hl : lv_has ls 7 [(4, .int i9), (0, .ref b9), (1, .ref x9), (2, .ref (g_r G)), (3, .ref o9)]) (hc : c9 + 8 ≤ 601024) (hd : d9 + 900 ≤ 7293034) (hk : ∀ (M : Mem) (r : Rho) (H : Heap) (locs : List Loc) (ls : Array Slot), w_W G M r s H locs → lv_has ls 7 [(4, .int i9), (0, .ref b9), (1, .ref x9), (2, .ref (g_r G)), (3, .ref o9)] → W p l e room_1 s m args below meth c H locs (c9 + 8) (d9 + 900) (PQ G below args s 601024 7293034 (fun z : Mem × Rho => (.inl (some (.int 1)), z)) (kk M r)) (F0 m 2675 ls [])) : W p l e room_1 s m args below meth c H locs c9 d9 (PQ G below args s 601024 7293034 (fun z : Mem × Rho => (.inl (some (.int 1)), z)) (f_L_c33 N xs L x9 o9 i9 M r kk)) (F0 m 2191 ls []) := by
  obtain ⟨hx, hb, hts, hown, hml, hTT, -⟩ := id E
  unfold f_L_c33
  refine lv_aload_n hx hb dL_law__2191 rfl (lv_at hl 2 rfl) ?_
  refine lv_aload_n hx hb dL_law__2192 rfl (lv_at hl 1 rfl) ?_
  refine lv_iload hx hb dL_law__2193 (lv_at hl 0 rfl) ?_
  refine lv_iconst (v := 1) hx hb dL_law__2195 (by decide) ?_
  refine lv_iadd hx hb dL_law__2196 ?_
  refine gx_sld E hw hX hbl hbA dL_law__2197 (fun v1 => ?_)
  refine lv_aload_n hx hb dL_law__2198 rfl (lv_at hl 1 rfl) ?_
  refine lv_iload hx hb dL_law__2199 (lv_at hl 0 rfl) ?_
  refine lv_iconst (v := 2) hx hb dL_law__2201 (by decide) ?_
  refine lv_iadd hx hb dL_law__2202 ?_
  refine gx_sld E hw hX hbl hbA dL_law__2203 (fun v2 => ?_)
  refine lv_aload_n hx hb dL_law__2204 rfl (lv_at hl 4 rfl) ?_
  refine W_bind fun z3 hz => ?_
  refine w_after (cells1 := c9 + 1) (slots1 := d9 + 6) (w_runSH E kS_L_240 kcH_L_colds (t_L_colds l hfl G N x9 v1 v2 o9 M r ((fun z => (.inl (some (.int z.1)), z.2, r)) z3) (by rw [hz]; rfl)) ⟨Nat.le_of_ble_eq_true rfl, Nat.le_of_ble_eq_true rfl⟩ hw rfl hl.1 rfl (Nat.le_of_ble_eq_true rfl) dL_law__2205 ⟨by show c9 + 0 + 1 ≤ 601024; omega, by show d9 + 0 + 6 ≤ 7293034; omega⟩) hw rfl (by show c9 + 0 + 1 ≤ c9 + 1; omega) (by show d9 + 0 + 6 ≤ d9 + 6; omega) (fun H locs hw => ?_)
  refine W.eq (g2 := F0 m 2208 ls [.int z3.1]) rfl ?_
  have hw : w_W G z3.2 r s H locs := hw
  refine lv_istore (lv' := [(5, .int z3.1), (4, .int i9), (0, .ref b9), (1, .ref x9), (2, .ref (g_r G)), (3, .ref o9)]) hx hb dL_law__2208 hl (by decide) rfl (fun ls hl => ?_)
  refine lv_aload_n hx hb dL_law__2210 rfl (lv_at hl 4 rfl) ?_
  refine lv_aload_n hx hb dL_law__2211 rfl (lv_at hl 2 rfl) ?_
  refine lv_iload hx hb dL_law__2212 (lv_at hl 1 rfl) ?_
  refine lv_iconst (v := 1) hx hb dL_law__2214 (by decide) ?_
  refine lv_iadd hx hb dL_law__2215 ?_
  refine gx_sld E hw hX hbl hbA dL_law__2216 (fun v4 => ?_)
  refine lv_aload_n hx hb dL_law__2217 rfl (lv_at hl 2 rfl) ?_
  refine lv_iload hx hb dL_law__2218 (lv_at hl 1 rfl) ?_
  refine lv_iconst (v := 2) hx hb dL_law__2220 (by decide) ?_
  refine lv_iadd hx hb dL_law__2221 ?_
  refine gx_sld E hw hX hbl hbA dL_law__2222 (fun v5 => ?_)
  refine W_bind fun z6 hz => ?_
  refine w_after (cells1 := c9 + 1) (slots1 := d9 + 6) (w_runV E kV_L_242 kc_X12_colds (t_R_colds l hfl G on N v4 v5 z3.2 r ((fun z => (.inl (some (.int z.1)), z3.2, z.2)) z6) (by rw [hz]; rfl)) ⟨Nat.le_of_ble_eq_true rfl, Nat.le_of_ble_eq_true rfl⟩ hw (w_recvR E hw on) rfl hl.1 rfl (Nat.le_of_ble_eq_true rfl) dL_law__2223 ⟨by show c9 + 1 + 0 ≤ 601024; omega, by show d9 + 6 + 0 ≤ 7293034; omega⟩) hw rfl (by show c9 + 1 + 0 ≤ c9 + 1; omega) (by show d9 + 6 + 0 ≤ d9 + 6; omega) (fun H locs hw => ?_)
  refine W.eq (g2 := F0 m 2226 ls [.int z6.1]) rfl ?_
  have hw : w_W G z3.2 z6.2 s H locs := hw
  refine lv_istore (lv' := [(6, .int z6.1), (5, .int z3.1), (4, .int i9), (0, .ref b9), (1, .ref x9), (2, .ref (g_r G)), (3, .ref o9)]) hx hb dL_law__2226 hl (by decide) rfl (fun ls hl => ?_)
  refine lv_aload_n hx hb dL_law__2228 rfl (lv_at hl 5 rfl) ?_
  refine W_bind fun z7 hz => ?_
  refine w_after (cells1 := c9 + 1) (slots1 := d9 + 6) (w_runV E kV_L_136 kc_X12_thrown (t_R_thrown l hfl G on z3.2 z6.2 ((fun z => (.inl (some (.int z)), z3.2, z6.2)) z7) (by rw [hz]; rfl)) ⟨Nat.le_of_ble_eq_true rfl, Nat.le_of_ble_eq_true rfl⟩ hw (w_recvR E hw on) rfl hl.1 rfl (Nat.le_of_ble_eq_true rfl) dL_law__2229 ⟨by show c9 + 1 + 0 ≤ 601024; omega, by show d9 + 6 + 0 ≤ 7293034; omega⟩) hw rfl (by show c9 + 1 + 0 ≤ c9 + 1; omega) (by show d9 + 6 + 0 ≤ d9 + 6; omega) (fun H locs hw => ?_)
  refine W.eq (g2 := F0 m 2232 ls [.int z7]) rfl ?_
  have hw : w_W G z3.2 z6.2 s H locs := hw
  refine lv_iload hx hb dL_law__2232 (lv_at hl 1 rfl) ?_
  refine cx_icmp_eq (tgt := 2239) E dL_law__2234 (by decide) (fun _ => ?_) (fun _ => ?_)
  · refine lv_iload hx hb dL_law__2239 (lv_at hl 1 rfl) ?_
    refine cx_if_ne (tgt := 2256) E dL_law__2241 (by decide) (fun _ => ?_) (fun _ => ?_)
    · refine lv_goto (tgt := 2675) hx hb dL_law__2256 (by decide) ?_
      refine W.widen (k := c9 + 8) (n := d9 + 900) (by omega) (by omega) ?_
      exact hk z3.2 z6.2 _ _ _ hw (lv_sub hl [2, 3, 4, 5, 6] rfl)
    · refine lv_aload_n hx hb dL_law__2244 rfl (lv_at hl 6 rfl) ?_
      refine lv_iconst (v := 0) hx hb dL_law__2245 (by decide) ?_
      refine gx_lald E hw dL_law__2246 (fun v8 _ => ?_)
      refine lv_iload hx hb dL_law__2247 (lv_at hl 0 rfl) ?_
      refine lv_i2l (v := Int32.toInt64 z6.1) hx hb dL_law__2249 rfl ?_
      refine W.lcmp hx hb dL_law__2250 ?_
      refine cx_if_eq (tgt := 2256) E dL_law__2251 (by decide) (fun _ => ?_) (fun _ => ?_)
      · refine lv_goto (tgt := 2675) hx hb dL_law__2256 (by decide) ?_
        refine W.widen (k := c9 + 8) (n := d9 + 900) (by omega) (by omega) ?_
        exact hk z3.2 z6.2 _ _ _ hw (lv_sub hl [2, 3, 4, 5, 6] rfl)
      · refine lv_iconst (v := 0) hx hb dL_law__2254 (by decide) ?_
        exact W_none
  · refine lv_iconst (v := 0) hx hb dL_law__2237 (by decide) ?_
    exact W_none
set_option maxHeartbeats 4000000 in
set_option maxRecDepth 100000 in
theorem t_L_c34 {p : Program} {l : Launch} {e : Env} {s : State} {m : MethodId} {args : Array Value} {below : List Frame} {meth : Method} {c : Code} {H : Heap} {locs : List Loc} {ls : Array Slot} {G : wG} {M : Mem} {r : Rho} {xs : Nat → Int32} {L b9 x9 o9 c9 d9 N : Nat} {i9 : Int32} {kk : Mem → Rho → Option (Mem × Rho)} (hfl : l.stackTraces = false) (on : g_on G = true) (E : wE G p l s m args meth c cL_law_ "CheekTownLaw" 7) (hX : va_X b9 L xs s s.heap) (hbl : b9 < s.heap.size) (hbA : ¬ g_A G b9) (hw : w_W G M r s H locs) (hl : lv_has ls 7 [(4, .int i9), (0, .ref b9), (1, .ref x9), (2, .ref (g_r G)), (3, .ref o9)]) (hc : c9 + 8 ≤ 601024) (hd : d9 + 900 ≤ 7293034) (hk : ∀ (M : Mem) (r : Rho) (H : Heap) (locs : List Loc) (ls : Array Slot), w_W G M r s H locs → lv_has ls 7 [(4, .int i9), (0, .ref b9), (1, .ref x9), (2, .ref (g_r G)), (3, .ref o9)] → W p l e room_1 s m args below meth c H locs (c9 + 8) (d9 + 900) (PQ G below args s 601024 7293034 (fun z : Mem × Rho => (.inl (some (.int 1)), z)) (kk M r)) (F0 m 2675 ls [])) : W p l e room_1 s m args below meth c H locs c9 d9 (PQ G below args s 601024 7293034 (fun z : Mem × Rho => (.inl (some (.int 1)), z)) (f_L_c34 N xs L x9 o9 i9 M r kk)) (F0 m 2259 ls []) := by
  obtain ⟨hx, hb, hts, hown, hml, hTT, -⟩ := id E
  unfold f_L_c34
  refine lv_aload_n hx hb dL_law__2259 rfl (lv_at hl 2 rfl) ?_
  refine lv_aload_n hx hb dL_law__2260 rfl (lv_at hl 1 rfl) ?_
  refine lv_iload hx hb dL_law__2261 (lv_at hl 0 rfl) ?_
  refine lv_iconst (v := 1) hx hb dL_law__2263 (by decide) ?_
  refine lv_iadd hx hb dL_law__2264 ?_
  refine gx_sld E hw hX hbl hbA dL_law__2265 (fun v1 => ?_)
  refine lv_aload_n hx hb dL_law__2266 rfl (lv_at hl 1 rfl) ?_
  refine lv_iload hx hb dL_law__2267 (lv_at hl 0 rfl) ?_
  refine lv_iconst (v := 2) hx hb dL_law__2269 (by decide) ?_
  refine lv_iadd hx hb dL_law__2270 ?_
  refine gx_sld E hw hX hbl hbA dL_law__2271 (fun v2 => ?_)
  refine lv_aload_n hx hb dL_law__2272 rfl (lv_at hl 4 rfl) ?_
  refine W_bind fun z3 hz => ?_
  refine w_after (cells1 := c9 + 2) (slots1 := d9 + 12) (w_runSH E kS_L_243 kcH_L_spared (t_L_spared l hfl G N x9 v1 v2 o9 M r ((fun z => (.inl (some (.int z.1)), z.2, r)) z3) (by rw [hz]; rfl)) ⟨Nat.le_of_ble_eq_true rfl, Nat.le_of_ble_eq_true rfl⟩ hw rfl hl.1 rfl (Nat.le_of_ble_eq_true rfl) dL_law__2273 ⟨by show c9 + 0 + 2 ≤ 601024; omega, by show d9 + 0 + 12 ≤ 7293034; omega⟩) hw rfl (by show c9 + 0 + 2 ≤ c9 + 2; omega) (by show d9 + 0 + 12 ≤ d9 + 12; omega) (fun H locs hw => ?_)
  refine W.eq (g2 := F0 m 2276 ls [.int z3.1]) rfl ?_
  have hw : w_W G z3.2 r s H locs := hw
  refine lv_istore (lv' := [(5, .int z3.1), (4, .int i9), (0, .ref b9), (1, .ref x9), (2, .ref (g_r G)), (3, .ref o9)]) hx hb dL_law__2276 hl (by decide) rfl (fun ls hl => ?_)
  refine lv_aload_n hx hb dL_law__2278 rfl (lv_at hl 4 rfl) ?_
  refine lv_aload_n hx hb dL_law__2279 rfl (lv_at hl 2 rfl) ?_
  refine lv_iload hx hb dL_law__2280 (lv_at hl 1 rfl) ?_
  refine lv_iconst (v := 1) hx hb dL_law__2282 (by decide) ?_
  refine lv_iadd hx hb dL_law__2283 ?_
  refine gx_sld E hw hX hbl hbA dL_law__2284 (fun v4 => ?_)
  refine lv_aload_n hx hb dL_law__2285 rfl (lv_at hl 2 rfl) ?_
  refine lv_iload hx hb dL_law__2286 (lv_at hl 1 rfl) ?_
  refine lv_iconst (v := 2) hx hb dL_law__2288 (by decide) ?_
  refine lv_iadd hx hb dL_law__2289 ?_
  refine gx_sld E hw hX hbl hbA dL_law__2290 (fun v5 => ?_)
  refine W_bind fun z6 hz => ?_
  refine w_after (cells1 := c9 + 2) (slots1 := d9 + 12) (w_runV E kV_L_245 kc_X12_spared (t_R_spared l hfl G on N v4 v5 z3.2 r ((fun z => (.inl (some (.int z.1)), z3.2, z.2)) z6) (by rw [hz]; rfl)) ⟨Nat.le_of_ble_eq_true rfl, Nat.le_of_ble_eq_true rfl⟩ hw (w_recvR E hw on) rfl hl.1 rfl (Nat.le_of_ble_eq_true rfl) dL_law__2291 ⟨by show c9 + 2 + 0 ≤ 601024; omega, by show d9 + 12 + 0 ≤ 7293034; omega⟩) hw rfl (by show c9 + 2 + 0 ≤ c9 + 2; omega) (by show d9 + 12 + 0 ≤ d9 + 12; omega) (fun H locs hw => ?_)
  refine W.eq (g2 := F0 m 2294 ls [.int z6.1]) rfl ?_
  have hw : w_W G z3.2 z6.2 s H locs := hw
  refine lv_istore (lv' := [(6, .int z6.1), (5, .int z3.1), (4, .int i9), (0, .ref b9), (1, .ref x9), (2, .ref (g_r G)), (3, .ref o9)]) hx hb dL_law__2294 hl (by decide) rfl (fun ls hl => ?_)
  refine lv_aload_n hx hb dL_law__2296 rfl (lv_at hl 5 rfl) ?_
  refine W_bind fun z7 hz => ?_
  refine w_after (cells1 := c9 + 2) (slots1 := d9 + 12) (w_runV E kV_L_136 kc_X12_thrown (t_R_thrown l hfl G on z3.2 z6.2 ((fun z => (.inl (some (.int z)), z3.2, z6.2)) z7) (by rw [hz]; rfl)) ⟨Nat.le_of_ble_eq_true rfl, Nat.le_of_ble_eq_true rfl⟩ hw (w_recvR E hw on) rfl hl.1 rfl (Nat.le_of_ble_eq_true rfl) dL_law__2297 ⟨by show c9 + 2 + 0 ≤ 601024; omega, by show d9 + 12 + 0 ≤ 7293034; omega⟩) hw rfl (by show c9 + 2 + 0 ≤ c9 + 2; omega) (by show d9 + 12 + 0 ≤ d9 + 12; omega) (fun H locs hw => ?_)
  refine W.eq (g2 := F0 m 2300 ls [.int z7]) rfl ?_
  have hw : w_W G z3.2 z6.2 s H locs := hw
  refine lv_iload hx hb dL_law__2300 (lv_at hl 1 rfl) ?_
  refine cx_icmp_eq (tgt := 2307) E dL_law__2302 (by decide) (fun _ => ?_) (fun _ => ?_)
  · refine lv_iload hx hb dL_law__2307 (lv_at hl 1 rfl) ?_
    refine cx_if_ne (tgt := 2324) E dL_law__2309 (by decide) (fun _ => ?_) (fun _ => ?_)
    · refine lv_goto (tgt := 2675) hx hb dL_law__2324 (by decide) ?_
      refine W.widen (k := c9 + 8) (n := d9 + 900) (by omega) (by omega) ?_
      exact hk z3.2 z6.2 _ _ _ hw (lv_sub hl [2, 3, 4, 5, 6] rfl)
    · refine lv_aload_n hx hb dL_law__2312 rfl (lv_at hl 6 rfl) ?_
      refine lv_iconst (v := 0) hx hb dL_law__2313 (by decide) ?_
      refine gx_lald E hw dL_law__2314 (fun v8 _ => ?_)
      refine lv_iload hx hb dL_law__2315 (lv_at hl 0 rfl) ?_
      refine lv_i2l (v := Int32.toInt64 z6.1) hx hb dL_law__2317 rfl ?_
      refine W.lcmp hx hb dL_law__2318 ?_
      refine cx_if_eq (tgt := 2324) E dL_law__2319 (by decide) (fun _ => ?_) (fun _ => ?_)
      · refine lv_goto (tgt := 2675) hx hb dL_law__2324 (by decide) ?_
        refine W.widen (k := c9 + 8) (n := d9 + 900) (by omega) (by omega) ?_
        exact hk z3.2 z6.2 _ _ _ hw (lv_sub hl [2, 3, 4, 5, 6] rfl)
      · refine lv_iconst (v := 0) hx hb dL_law__2322 (by decide) ?_
        exact W_none
  · refine lv_iconst (v := 0) hx hb dL_law__2305 (by decide) ?_
    exact W_none
set_option maxHeartbeats 4000000 in
set_option maxRecDepth 100000 in
theorem t_L_c35 {p : Program} {l : Launch} {e : Env} {s : State} {m : MethodId} {args : Array Value} {below : List Frame} {meth : Method} {c : Code} {H : Heap} {locs : List Loc} {ls : Array Slot} {G : wG} {M : Mem} {r : Rho} {xs : Nat → Int32} {L b9 x9 o9 c9 d9 N : Nat} {i9 : Int32} {kk : Mem → Rho → Option (Mem × Rho)} (hfl : l.stackTraces = false) (on : g_on G = true) (E : wE G p l s m args meth c cL_law_ "CheekTownLaw" 7) (hX : va_X b9 L xs s s.heap) (hbl : b9 < s.heap.size) (hbA : ¬ g_A G b9) (hw : w_W G M r s H locs) (hl : lv_has ls 7 [(4, .int i9), (0, .ref b9), (1, .ref x9), (2, .ref (g_r G)), (3, .ref o9)]) (hc : c9 + 8 ≤ 601024) (hd : d9 + 900 ≤ 7293034) (hk : ∀ (M : Mem) (r : Rho) (H : Heap) (locs : List Loc) (ls : Array Slot), w_W G M r s H locs → lv_has ls 7 [(4, .int i9), (0, .ref b9), (1, .ref x9), (2, .ref (g_r G)), (3, .ref o9)] → W p l e room_1 s m args below meth c H locs (c9 + 8) (d9 + 900) (PQ G below args s 601024 7293034 (fun z : Mem × Rho => (.inl (some (.int 1)), z)) (kk M r)) (F0 m 2675 ls [])) : W p l e room_1 s m args below meth c H locs c9 d9 (PQ G below args s 601024 7293034 (fun z : Mem × Rho => (.inl (some (.int 1)), z)) (f_L_c35 N xs L x9 o9 i9 M r kk)) (F0 m 2327 ls []) := by
  obtain ⟨hx, hb, hts, hown, hml, hTT, -⟩ := id E
  unfold f_L_c35
  refine lv_aload_n hx hb dL_law__2327 rfl (lv_at hl 2 rfl) ?_
  refine lv_aload_n hx hb dL_law__2328 rfl (lv_at hl 1 rfl) ?_
  refine lv_iload hx hb dL_law__2329 (lv_at hl 0 rfl) ?_
  refine lv_iconst (v := 1) hx hb dL_law__2331 (by decide) ?_
  refine lv_iadd hx hb dL_law__2332 ?_
  refine gx_sld E hw hX hbl hbA dL_law__2333 (fun v1 => ?_)
  refine gx_flag E dL_law__2334 dL_law__2337 dL_law__2338 dL_law__2341 ?_
  refine W.eq (g2 := F0 m 2342 ls [.int (bz v1), .ref x9]) rfl ?_
  refine W_bind fun _ hck => ?_
  refine W_bind fun z2 hz => ?_
  refine w_after (cells1 := c9 + 0) (slots1 := d9 + 0) (w_runV E kV_L_246 kc_X11_changed (t_CT_changed l hfl G N x9 (bz v1) M r ((fun z => (.inl (some (.int z)), M, r)) z2) (by rw [hz]; rfl)) ⟨Nat.le_of_ble_eq_true rfl, Nat.le_of_ble_eq_true rfl⟩ hw (w_recv E hw (by decide) ⟨_, _, rfl⟩ (ck_ok hck)) rfl hl.1 rfl (Nat.le_of_ble_eq_true rfl) dL_law__2342 ⟨by show c9 + 0 + 0 ≤ 601024; omega, by show d9 + 0 + 0 ≤ 7293034; omega⟩) hw rfl (by show c9 + 0 + 0 ≤ c9 + 0; omega) (by show d9 + 0 + 0 ≤ d9 + 0; omega) (fun H locs hw => ?_)
  refine W.eq (g2 := F0 m 2345 ls [.int z2]) rfl ?_
  have hw : w_W G M r s H locs := hw
  refine lv_aload_n hx hb dL_law__2345 rfl (lv_at hl 3 rfl) ?_
  refine lv_aload_n hx hb dL_law__2346 rfl (lv_at hl 1 rfl) ?_
  refine lv_iload hx hb dL_law__2347 (lv_at hl 0 rfl) ?_
  refine lv_iconst (v := 1) hx hb dL_law__2349 (by decide) ?_
  refine lv_iadd hx hb dL_law__2350 ?_
  refine gx_sld E hw hX hbl hbA dL_law__2351 (fun v3 => ?_)
  refine gx_flag E dL_law__2352 dL_law__2355 dL_law__2356 dL_law__2359 ?_
  refine W.eq (g2 := F0 m 2360 ls [.int (bz v3), .ref (g_r G), .int z2]) rfl ?_
  refine W_bind fun z4 hz => ?_
  refine w_after (cells1 := c9 + 0) (slots1 := d9 + 0) (w_runV E kV_L_249 kc_X12_changed (t_R_changed l hfl G on N (bz v3) M r ((fun z => (.inl (some (.int z.1)), M, z.2)) z4) (by rw [hz]; rfl)) ⟨Nat.le_of_ble_eq_true rfl, Nat.le_of_ble_eq_true rfl⟩ hw (w_recvR E hw on) rfl hl.1 rfl (Nat.le_of_ble_eq_true rfl) dL_law__2360 ⟨by show c9 + 0 + 0 ≤ 601024; omega, by show d9 + 0 + 0 ≤ 7293034; omega⟩) hw rfl (by show c9 + 0 + 0 ≤ c9 + 0; omega) (by show d9 + 0 + 0 ≤ d9 + 0; omega) (fun H locs hw => ?_)
  refine W.eq (g2 := F0 m 2363 ls [.int z4.1, .int z2]) rfl ?_
  have hw : w_W G M z4.2 s H locs := hw
  refine cx_icmp_eq (tgt := 2675) E dL_law__2363 (by decide) (fun _ => ?_) (fun _ => ?_)
  · refine W.widen (k := c9 + 8) (n := d9 + 900) (by omega) (by omega) ?_
    exact hk M z4.2 _ _ _ hw (lv_sub hl [0, 1, 2, 3, 4] rfl)
  · refine lv_iconst (v := 0) hx hb dL_law__2366 (by decide) ?_
    exact W_none
set_option maxHeartbeats 4000000 in
set_option maxRecDepth 100000 in
theorem t_L_c36 {p : Program} {l : Launch} {e : Env} {s : State} {m : MethodId} {args : Array Value} {below : List Frame} {meth : Method} {c : Code} {H : Heap} {locs : List Loc} {ls : Array Slot} {G : wG} {M : Mem} {r : Rho} {xs : Nat → Int32} {L b9 x9 o9 c9 d9 N : Nat} {i9 : Int32} {kk : Mem → Rho → Option (Mem × Rho)} (hfl : l.stackTraces = false) (on : g_on G = true) (E : wE G p l s m args meth c cL_law_ "CheekTownLaw" 7) (hX : va_X b9 L xs s s.heap) (hbl : b9 < s.heap.size) (hbA : ¬ g_A G b9) (hw : w_W G M r s H locs) (hl : lv_has ls 7 [(4, .int i9), (0, .ref b9), (1, .ref x9), (2, .ref (g_r G)), (3, .ref o9)]) (hc : c9 + 8 ≤ 601024) (hd : d9 + 900 ≤ 7293034) (hk : ∀ (M : Mem) (r : Rho) (H : Heap) (locs : List Loc) (ls : Array Slot), w_W G M r s H locs → lv_has ls 7 [(4, .int i9), (0, .ref b9), (1, .ref x9), (2, .ref (g_r G)), (3, .ref o9)] → W p l e room_1 s m args below meth c H locs (c9 + 8) (d9 + 900) (PQ G below args s 601024 7293034 (fun z : Mem × Rho => (.inl (some (.int 1)), z)) (kk M r)) (F0 m 2675 ls [])) : W p l e room_1 s m args below meth c H locs c9 d9 (PQ G below args s 601024 7293034 (fun z : Mem × Rho => (.inl (some (.int 1)), z)) (f_L_c36 N xs L x9 o9 i9 M r kk)) (F0 m 2368 ls []) := by
  obtain ⟨hx, hb, hts, hown, hml, hTT, -⟩ := id E
  unfold f_L_c36
  refine lv_aload_n hx hb dL_law__2368 rfl (lv_at hl 2 rfl) ?_
  refine lv_aload_n hx hb dL_law__2369 rfl (lv_at hl 1 rfl) ?_
  refine lv_iload hx hb dL_law__2370 (lv_at hl 0 rfl) ?_
  refine lv_iconst (v := 1) hx hb dL_law__2372 (by decide) ?_
  refine lv_iadd hx hb dL_law__2373 ?_
  refine gx_sld E hw hX hbl hbA dL_law__2374 (fun v1 => ?_)
  refine lv_aload_n hx hb dL_law__2375 rfl (lv_at hl 1 rfl) ?_
  refine lv_iload hx hb dL_law__2376 (lv_at hl 0 rfl) ?_
  refine lv_iconst (v := 2) hx hb dL_law__2378 (by decide) ?_
  refine lv_iadd hx hb dL_law__2379 ?_
  refine gx_sld E hw hX hbl hbA dL_law__2380 (fun v2 => ?_)
  refine lv_aload_n hx hb dL_law__2381 rfl (lv_at hl 4 rfl) ?_
  refine W_bind fun z3 hz => ?_
  refine w_after (cells1 := c9 + 2) (slots1 := d9 + 12) (w_runSH E kS_L_250 kcH_L_trial (t_L_trial l hfl G N x9 v1 v2 o9 M r ((fun z => (.inl (some (.int z.1)), z.2, r)) z3) (by rw [hz]; rfl)) ⟨Nat.le_of_ble_eq_true rfl, Nat.le_of_ble_eq_true rfl⟩ hw rfl hl.1 rfl (Nat.le_of_ble_eq_true rfl) dL_law__2382 ⟨by show c9 + 0 + 2 ≤ 601024; omega, by show d9 + 0 + 12 ≤ 7293034; omega⟩) hw rfl (by show c9 + 0 + 2 ≤ c9 + 2; omega) (by show d9 + 0 + 12 ≤ d9 + 12; omega) (fun H locs hw => ?_)
  refine W.eq (g2 := F0 m 2385 ls [.int z3.1]) rfl ?_
  have hw : w_W G z3.2 r s H locs := hw
  refine lv_istore (lv' := [(5, .int z3.1), (4, .int i9), (0, .ref b9), (1, .ref x9), (2, .ref (g_r G)), (3, .ref o9)]) hx hb dL_law__2385 hl (by decide) rfl (fun ls hl => ?_)
  refine lv_aload_n hx hb dL_law__2387 rfl (lv_at hl 4 rfl) ?_
  refine lv_aload_n hx hb dL_law__2388 rfl (lv_at hl 2 rfl) ?_
  refine lv_iload hx hb dL_law__2389 (lv_at hl 1 rfl) ?_
  refine lv_iconst (v := 1) hx hb dL_law__2391 (by decide) ?_
  refine lv_iadd hx hb dL_law__2392 ?_
  refine gx_sld E hw hX hbl hbA dL_law__2393 (fun v4 => ?_)
  refine lv_aload_n hx hb dL_law__2394 rfl (lv_at hl 2 rfl) ?_
  refine lv_iload hx hb dL_law__2395 (lv_at hl 1 rfl) ?_
  refine lv_iconst (v := 2) hx hb dL_law__2397 (by decide) ?_
  refine lv_iadd hx hb dL_law__2398 ?_
  refine gx_sld E hw hX hbl hbA dL_law__2399 (fun v5 => ?_)
  refine W_bind fun z6 hz => ?_
  refine w_after (cells1 := c9 + 2) (slots1 := d9 + 12) (w_runV E kV_L_252 kc_X12_trial (t_R_trial l hfl G on N v4 v5 z3.2 r ((fun z => (.inl (some (.int z.1)), z3.2, z.2)) z6) (by rw [hz]; rfl)) ⟨Nat.le_of_ble_eq_true rfl, Nat.le_of_ble_eq_true rfl⟩ hw (w_recvR E hw on) rfl hl.1 rfl (Nat.le_of_ble_eq_true rfl) dL_law__2400 ⟨by show c9 + 2 + 0 ≤ 601024; omega, by show d9 + 12 + 0 ≤ 7293034; omega⟩) hw rfl (by show c9 + 2 + 0 ≤ c9 + 2; omega) (by show d9 + 12 + 0 ≤ d9 + 12; omega) (fun H locs hw => ?_)
  refine W.eq (g2 := F0 m 2403 ls [.int z6.1]) rfl ?_
  have hw : w_W G z3.2 z6.2 s H locs := hw
  refine lv_istore (lv' := [(6, .int z6.1), (5, .int z3.1), (4, .int i9), (0, .ref b9), (1, .ref x9), (2, .ref (g_r G)), (3, .ref o9)]) hx hb dL_law__2403 hl (by decide) rfl (fun ls hl => ?_)
  refine lv_aload_n hx hb dL_law__2405 rfl (lv_at hl 5 rfl) ?_
  refine W_bind fun z7 hz => ?_
  refine w_after (cells1 := c9 + 2) (slots1 := d9 + 12) (w_runV E kV_L_136 kc_X12_thrown (t_R_thrown l hfl G on z3.2 z6.2 ((fun z => (.inl (some (.int z)), z3.2, z6.2)) z7) (by rw [hz]; rfl)) ⟨Nat.le_of_ble_eq_true rfl, Nat.le_of_ble_eq_true rfl⟩ hw (w_recvR E hw on) rfl hl.1 rfl (Nat.le_of_ble_eq_true rfl) dL_law__2406 ⟨by show c9 + 2 + 0 ≤ 601024; omega, by show d9 + 12 + 0 ≤ 7293034; omega⟩) hw rfl (by show c9 + 2 + 0 ≤ c9 + 2; omega) (by show d9 + 12 + 0 ≤ d9 + 12; omega) (fun H locs hw => ?_)
  refine W.eq (g2 := F0 m 2409 ls [.int z7]) rfl ?_
  have hw : w_W G z3.2 z6.2 s H locs := hw
  refine lv_iload hx hb dL_law__2409 (lv_at hl 1 rfl) ?_
  refine cx_icmp_eq (tgt := 2416) E dL_law__2411 (by decide) (fun _ => ?_) (fun _ => ?_)
  · refine lv_iload hx hb dL_law__2416 (lv_at hl 1 rfl) ?_
    refine cx_if_ne (tgt := 2433) E dL_law__2418 (by decide) (fun _ => ?_) (fun _ => ?_)
    · refine lv_goto (tgt := 2675) hx hb dL_law__2433 (by decide) ?_
      refine W.widen (k := c9 + 8) (n := d9 + 900) (by omega) (by omega) ?_
      exact hk z3.2 z6.2 _ _ _ hw (lv_sub hl [2, 3, 4, 5, 6] rfl)
    · refine lv_aload_n hx hb dL_law__2421 rfl (lv_at hl 6 rfl) ?_
      refine lv_iconst (v := 0) hx hb dL_law__2422 (by decide) ?_
      refine gx_lald E hw dL_law__2423 (fun v8 _ => ?_)
      refine lv_iload hx hb dL_law__2424 (lv_at hl 0 rfl) ?_
      refine lv_i2l (v := Int32.toInt64 z6.1) hx hb dL_law__2426 rfl ?_
      refine W.lcmp hx hb dL_law__2427 ?_
      refine cx_if_eq (tgt := 2433) E dL_law__2428 (by decide) (fun _ => ?_) (fun _ => ?_)
      · refine lv_goto (tgt := 2675) hx hb dL_law__2433 (by decide) ?_
        refine W.widen (k := c9 + 8) (n := d9 + 900) (by omega) (by omega) ?_
        exact hk z3.2 z6.2 _ _ _ hw (lv_sub hl [2, 3, 4, 5, 6] rfl)
      · refine lv_iconst (v := 0) hx hb dL_law__2431 (by decide) ?_
        exact W_none
  · refine lv_iconst (v := 0) hx hb dL_law__2414 (by decide) ?_
    exact W_none
set_option maxHeartbeats 4000000 in
set_option maxRecDepth 100000 in
theorem t_L_c37 {p : Program} {l : Launch} {e : Env} {s : State} {m : MethodId} {args : Array Value} {below : List Frame} {meth : Method} {c : Code} {H : Heap} {locs : List Loc} {ls : Array Slot} {G : wG} {M : Mem} {r : Rho} {xs : Nat → Int32} {L b9 x9 o9 c9 d9 N : Nat} {i9 : Int32} {kk : Mem → Rho → Option (Mem × Rho)} (hfl : l.stackTraces = false) (on : g_on G = true) (E : wE G p l s m args meth c cL_law_ "CheekTownLaw" 7) (hX : va_X b9 L xs s s.heap) (hbl : b9 < s.heap.size) (hbA : ¬ g_A G b9) (hw : w_W G M r s H locs) (hl : lv_has ls 7 [(4, .int i9), (0, .ref b9), (1, .ref x9), (2, .ref (g_r G)), (3, .ref o9)]) (hc : c9 + 8 ≤ 601024) (hd : d9 + 900 ≤ 7293034) (hk : ∀ (M : Mem) (r : Rho) (H : Heap) (locs : List Loc) (ls : Array Slot), w_W G M r s H locs → lv_has ls 7 [(4, .int i9), (0, .ref b9), (1, .ref x9), (2, .ref (g_r G)), (3, .ref o9)] → W p l e room_1 s m args below meth c H locs (c9 + 8) (d9 + 900) (PQ G below args s 601024 7293034 (fun z : Mem × Rho => (.inl (some (.int 1)), z)) (kk M r)) (F0 m 2675 ls [])) : W p l e room_1 s m args below meth c H locs c9 d9 (PQ G below args s 601024 7293034 (fun z : Mem × Rho => (.inl (some (.int 1)), z)) (f_L_c37 N xs L x9 o9 i9 M r kk)) (F0 m 2436 ls []) := by
  obtain ⟨hx, hb, hts, hown, hml, hTT, -⟩ := id E
  unfold f_L_c37
  refine lv_aload_n hx hb dL_law__2436 rfl (lv_at hl 2 rfl) ?_
  refine lv_aload_n hx hb dL_law__2437 rfl (lv_at hl 1 rfl) ?_
  refine lv_iload hx hb dL_law__2438 (lv_at hl 0 rfl) ?_
  refine lv_iconst (v := 1) hx hb dL_law__2440 (by decide) ?_
  refine lv_iadd hx hb dL_law__2441 ?_
  refine gx_sld E hw hX hbl hbA dL_law__2442 (fun v1 => ?_)
  refine lv_aload_n hx hb dL_law__2443 rfl (lv_at hl 1 rfl) ?_
  refine lv_iload hx hb dL_law__2444 (lv_at hl 0 rfl) ?_
  refine lv_iconst (v := 2) hx hb dL_law__2446 (by decide) ?_
  refine lv_iadd hx hb dL_law__2447 ?_
  refine gx_sld E hw hX hbl hbA dL_law__2448 (fun v2 => ?_)
  refine gx_flag E dL_law__2449 dL_law__2452 dL_law__2453 dL_law__2456 ?_
  refine W.eq (g2 := F0 m 2457 ls [.int (bz v2), .int v1, .ref x9]) rfl ?_
  refine lv_aload_n hx hb dL_law__2457 rfl (lv_at hl 4 rfl) ?_
  refine W_bind fun z3 hz => ?_
  refine w_after (cells1 := c9 + 1) (slots1 := d9 + 6) (w_runSH E kS_L_253 kcH_L_span (t_L_span l hfl G N x9 v1 (bz v2) o9 M r ((fun z => (.inl (some (.int z.1)), z.2, r)) z3) (by rw [hz]; rfl)) ⟨Nat.le_of_ble_eq_true rfl, Nat.le_of_ble_eq_true rfl⟩ hw rfl hl.1 rfl (Nat.le_of_ble_eq_true rfl) dL_law__2458 ⟨by show c9 + 0 + 1 ≤ 601024; omega, by show d9 + 0 + 6 ≤ 7293034; omega⟩) hw rfl (by show c9 + 0 + 1 ≤ c9 + 1; omega) (by show d9 + 0 + 6 ≤ d9 + 6; omega) (fun H locs hw => ?_)
  refine W.eq (g2 := F0 m 2461 ls [.int z3.1]) rfl ?_
  have hw : w_W G z3.2 r s H locs := hw
  refine lv_istore (lv' := [(5, .int z3.1), (4, .int i9), (0, .ref b9), (1, .ref x9), (2, .ref (g_r G)), (3, .ref o9)]) hx hb dL_law__2461 hl (by decide) rfl (fun ls hl => ?_)
  refine lv_aload_n hx hb dL_law__2463 rfl (lv_at hl 4 rfl) ?_
  refine lv_aload_n hx hb dL_law__2464 rfl (lv_at hl 2 rfl) ?_
  refine lv_iload hx hb dL_law__2465 (lv_at hl 1 rfl) ?_
  refine lv_iconst (v := 1) hx hb dL_law__2467 (by decide) ?_
  refine lv_iadd hx hb dL_law__2468 ?_
  refine gx_sld E hw hX hbl hbA dL_law__2469 (fun v4 => ?_)
  refine lv_aload_n hx hb dL_law__2470 rfl (lv_at hl 2 rfl) ?_
  refine lv_iload hx hb dL_law__2471 (lv_at hl 1 rfl) ?_
  refine lv_iconst (v := 2) hx hb dL_law__2473 (by decide) ?_
  refine lv_iadd hx hb dL_law__2474 ?_
  refine gx_sld E hw hX hbl hbA dL_law__2475 (fun v5 => ?_)
  refine gx_flag E dL_law__2476 dL_law__2479 dL_law__2480 dL_law__2483 ?_
  refine W.eq (g2 := F0 m 2484 ls [.int (bz v5), .int v4, .ref (g_r G)]) rfl ?_
  refine W_bind fun z6 hz => ?_
  refine w_after (cells1 := c9 + 1) (slots1 := d9 + 6) (w_runV E kV_L_255 kc_X12_span (t_R_span l hfl G on N v4 (bz v5) z3.2 r ((fun z => (.inl (some (.int z.1)), z3.2, z.2)) z6) (by rw [hz]; rfl)) ⟨Nat.le_of_ble_eq_true rfl, Nat.le_of_ble_eq_true rfl⟩ hw (w_recvR E hw on) rfl hl.1 rfl (Nat.le_of_ble_eq_true rfl) dL_law__2484 ⟨by show c9 + 1 + 0 ≤ 601024; omega, by show d9 + 6 + 0 ≤ 7293034; omega⟩) hw rfl (by show c9 + 1 + 0 ≤ c9 + 1; omega) (by show d9 + 6 + 0 ≤ d9 + 6; omega) (fun H locs hw => ?_)
  refine W.eq (g2 := F0 m 2487 ls [.int z6.1]) rfl ?_
  have hw : w_W G z3.2 z6.2 s H locs := hw
  refine lv_istore (lv' := [(6, .int z6.1), (5, .int z3.1), (4, .int i9), (0, .ref b9), (1, .ref x9), (2, .ref (g_r G)), (3, .ref o9)]) hx hb dL_law__2487 hl (by decide) rfl (fun ls hl => ?_)
  refine lv_aload_n hx hb dL_law__2489 rfl (lv_at hl 5 rfl) ?_
  refine W_bind fun z7 hz => ?_
  refine w_after (cells1 := c9 + 1) (slots1 := d9 + 6) (w_runV E kV_L_136 kc_X12_thrown (t_R_thrown l hfl G on z3.2 z6.2 ((fun z => (.inl (some (.int z)), z3.2, z6.2)) z7) (by rw [hz]; rfl)) ⟨Nat.le_of_ble_eq_true rfl, Nat.le_of_ble_eq_true rfl⟩ hw (w_recvR E hw on) rfl hl.1 rfl (Nat.le_of_ble_eq_true rfl) dL_law__2490 ⟨by show c9 + 1 + 0 ≤ 601024; omega, by show d9 + 6 + 0 ≤ 7293034; omega⟩) hw rfl (by show c9 + 1 + 0 ≤ c9 + 1; omega) (by show d9 + 6 + 0 ≤ d9 + 6; omega) (fun H locs hw => ?_)
  refine W.eq (g2 := F0 m 2493 ls [.int z7]) rfl ?_
  have hw : w_W G z3.2 z6.2 s H locs := hw
  refine lv_iload hx hb dL_law__2493 (lv_at hl 1 rfl) ?_
  refine cx_icmp_eq (tgt := 2500) E dL_law__2495 (by decide) (fun _ => ?_) (fun _ => ?_)
  · refine lv_iload hx hb dL_law__2500 (lv_at hl 1 rfl) ?_
    refine cx_if_ne (tgt := 2517) E dL_law__2502 (by decide) (fun _ => ?_) (fun _ => ?_)
    · refine lv_goto (tgt := 2675) hx hb dL_law__2517 (by decide) ?_
      refine W.widen (k := c9 + 8) (n := d9 + 900) (by omega) (by omega) ?_
      exact hk z3.2 z6.2 _ _ _ hw (lv_sub hl [2, 3, 4, 5, 6] rfl)
    · refine lv_aload_n hx hb dL_law__2505 rfl (lv_at hl 6 rfl) ?_
      refine lv_iconst (v := 0) hx hb dL_law__2506 (by decide) ?_
      refine gx_lald E hw dL_law__2507 (fun v8 _ => ?_)
      refine lv_iload hx hb dL_law__2508 (lv_at hl 0 rfl) ?_
      refine lv_i2l (v := Int32.toInt64 z6.1) hx hb dL_law__2510 rfl ?_
      refine W.lcmp hx hb dL_law__2511 ?_
      refine cx_if_eq (tgt := 2517) E dL_law__2512 (by decide) (fun _ => ?_) (fun _ => ?_)
      · refine lv_goto (tgt := 2675) hx hb dL_law__2517 (by decide) ?_
        refine W.widen (k := c9 + 8) (n := d9 + 900) (by omega) (by omega) ?_
        exact hk z3.2 z6.2 _ _ _ hw (lv_sub hl [2, 3, 4, 5, 6] rfl)
      · refine lv_iconst (v := 0) hx hb dL_law__2515 (by decide) ?_
        exact W_none
  · refine lv_iconst (v := 0) hx hb dL_law__2498 (by decide) ?_
    exact W_none
set_option maxHeartbeats 4000000 in
set_option maxRecDepth 100000 in
theorem t_L_c38 {p : Program} {l : Launch} {e : Env} {s : State} {m : MethodId} {args : Array Value} {below : List Frame} {meth : Method} {c : Code} {H : Heap} {locs : List Loc} {ls : Array Slot} {G : wG} {M : Mem} {r : Rho} {xs : Nat → Int32} {L b9 x9 o9 c9 d9 N : Nat} {i9 : Int32} {kk : Mem → Rho → Option (Mem × Rho)} (hfl : l.stackTraces = false) (on : g_on G = true) (E : wE G p l s m args meth c cL_law_ "CheekTownLaw" 7) (hX : va_X b9 L xs s s.heap) (hbl : b9 < s.heap.size) (hbA : ¬ g_A G b9) (hw : w_W G M r s H locs) (hl : lv_has ls 7 [(4, .int i9), (0, .ref b9), (1, .ref x9), (2, .ref (g_r G)), (3, .ref o9)]) (hc : c9 + 8 ≤ 601024) (hd : d9 + 900 ≤ 7293034) (hk : ∀ (M : Mem) (r : Rho) (H : Heap) (locs : List Loc) (ls : Array Slot), w_W G M r s H locs → lv_has ls 7 [(4, .int i9), (0, .ref b9), (1, .ref x9), (2, .ref (g_r G)), (3, .ref o9)] → W p l e room_1 s m args below meth c H locs (c9 + 8) (d9 + 900) (PQ G below args s 601024 7293034 (fun z : Mem × Rho => (.inl (some (.int 1)), z)) (kk M r)) (F0 m 2675 ls [])) : W p l e room_1 s m args below meth c H locs c9 d9 (PQ G below args s 601024 7293034 (fun z : Mem × Rho => (.inl (some (.int 1)), z)) (f_L_c38 N xs L x9 o9 i9 M r kk)) (F0 m 2520 ls []) := by
  obtain ⟨hx, hb, hts, hown, hml, hTT, -⟩ := id E
  unfold f_L_c38
  refine lv_aload_n hx hb dL_law__2520 rfl (lv_at hl 2 rfl) ?_
  refine lv_aload_n hx hb dL_law__2521 rfl (lv_at hl 1 rfl) ?_
  refine lv_iload hx hb dL_law__2522 (lv_at hl 0 rfl) ?_
  refine lv_iconst (v := 1) hx hb dL_law__2524 (by decide) ?_
  refine lv_iadd hx hb dL_law__2525 ?_
  refine gx_sld E hw hX hbl hbA dL_law__2526 (fun v1 => ?_)
  refine lv_aload_n hx hb dL_law__2527 rfl (lv_at hl 1 rfl) ?_
  refine lv_iload hx hb dL_law__2528 (lv_at hl 0 rfl) ?_
  refine lv_iconst (v := 2) hx hb dL_law__2530 (by decide) ?_
  refine lv_iadd hx hb dL_law__2531 ?_
  refine gx_sld E hw hX hbl hbA dL_law__2532 (fun v2 => ?_)
  refine lv_aload_n hx hb dL_law__2533 rfl (lv_at hl 4 rfl) ?_
  refine W_bind fun z3 hz => ?_
  refine w_after (cells1 := c9 + 1) (slots1 := d9 + 6) (w_runSH E kS_L_256 kcH_L_log (t_L_log l hfl G x9 v1 v2 o9 M r ((fun z => (.inl (some (.int z.1)), z.2, r)) z3) (by rw [hz]; rfl)) ⟨Nat.le_of_ble_eq_true rfl, Nat.le_of_ble_eq_true rfl⟩ hw rfl hl.1 rfl (Nat.le_of_ble_eq_true rfl) dL_law__2534 ⟨by show c9 + 0 + 1 ≤ 601024; omega, by show d9 + 0 + 6 ≤ 7293034; omega⟩) hw rfl (by show c9 + 0 + 1 ≤ c9 + 1; omega) (by show d9 + 0 + 6 ≤ d9 + 6; omega) (fun H locs hw => ?_)
  refine W.eq (g2 := F0 m 2537 ls [.int z3.1]) rfl ?_
  have hw : w_W G z3.2 r s H locs := hw
  refine lv_istore (lv' := [(5, .int z3.1), (4, .int i9), (0, .ref b9), (1, .ref x9), (2, .ref (g_r G)), (3, .ref o9)]) hx hb dL_law__2537 hl (by decide) rfl (fun ls hl => ?_)
  refine lv_aload_n hx hb dL_law__2539 rfl (lv_at hl 4 rfl) ?_
  refine lv_aload_n hx hb dL_law__2540 rfl (lv_at hl 2 rfl) ?_
  refine lv_iload hx hb dL_law__2541 (lv_at hl 1 rfl) ?_
  refine lv_iconst (v := 1) hx hb dL_law__2543 (by decide) ?_
  refine lv_iadd hx hb dL_law__2544 ?_
  refine gx_sld E hw hX hbl hbA dL_law__2545 (fun v4 => ?_)
  refine lv_aload_n hx hb dL_law__2546 rfl (lv_at hl 2 rfl) ?_
  refine lv_iload hx hb dL_law__2547 (lv_at hl 1 rfl) ?_
  refine lv_iconst (v := 2) hx hb dL_law__2549 (by decide) ?_
  refine lv_iadd hx hb dL_law__2550 ?_
  refine gx_sld E hw hX hbl hbA dL_law__2551 (fun v5 => ?_)
  refine W_bind fun z6 hz => ?_
  refine w_after (cells1 := c9 + 1) (slots1 := d9 + 6) (w_runV E kV_L_258 kc_X12_log (t_R_log l hfl G on v4 v5 z3.2 r ((fun z => (.inl (some (.int z.1)), z3.2, z.2)) z6) (by rw [hz]; rfl)) ⟨Nat.le_of_ble_eq_true rfl, Nat.le_of_ble_eq_true rfl⟩ hw (w_recvR E hw on) rfl hl.1 rfl (Nat.le_of_ble_eq_true rfl) dL_law__2552 ⟨by show c9 + 1 + 0 ≤ 601024; omega, by show d9 + 6 + 0 ≤ 7293034; omega⟩) hw rfl (by show c9 + 1 + 0 ≤ c9 + 1; omega) (by show d9 + 6 + 0 ≤ d9 + 6; omega) (fun H locs hw => ?_)
  refine W.eq (g2 := F0 m 2555 ls [.int z6.1]) rfl ?_
  have hw : w_W G z3.2 z6.2 s H locs := hw
  refine lv_istore (lv' := [(6, .int z6.1), (5, .int z3.1), (4, .int i9), (0, .ref b9), (1, .ref x9), (2, .ref (g_r G)), (3, .ref o9)]) hx hb dL_law__2555 hl (by decide) rfl (fun ls hl => ?_)
  refine lv_aload_n hx hb dL_law__2557 rfl (lv_at hl 5 rfl) ?_
  refine W_bind fun z7 hz => ?_
  refine w_after (cells1 := c9 + 1) (slots1 := d9 + 6) (w_runV E kV_L_136 kc_X12_thrown (t_R_thrown l hfl G on z3.2 z6.2 ((fun z => (.inl (some (.int z)), z3.2, z6.2)) z7) (by rw [hz]; rfl)) ⟨Nat.le_of_ble_eq_true rfl, Nat.le_of_ble_eq_true rfl⟩ hw (w_recvR E hw on) rfl hl.1 rfl (Nat.le_of_ble_eq_true rfl) dL_law__2558 ⟨by show c9 + 1 + 0 ≤ 601024; omega, by show d9 + 6 + 0 ≤ 7293034; omega⟩) hw rfl (by show c9 + 1 + 0 ≤ c9 + 1; omega) (by show d9 + 6 + 0 ≤ d9 + 6; omega) (fun H locs hw => ?_)
  refine W.eq (g2 := F0 m 2561 ls [.int z7]) rfl ?_
  have hw : w_W G z3.2 z6.2 s H locs := hw
  refine lv_iload hx hb dL_law__2561 (lv_at hl 1 rfl) ?_
  refine cx_icmp_eq (tgt := 2568) E dL_law__2563 (by decide) (fun _ => ?_) (fun _ => ?_)
  · refine lv_iload hx hb dL_law__2568 (lv_at hl 1 rfl) ?_
    refine cx_if_ne (tgt := 2585) E dL_law__2570 (by decide) (fun _ => ?_) (fun _ => ?_)
    · refine lv_goto (tgt := 2675) hx hb dL_law__2585 (by decide) ?_
      refine W.widen (k := c9 + 8) (n := d9 + 900) (by omega) (by omega) ?_
      exact hk z3.2 z6.2 _ _ _ hw (lv_sub hl [2, 3, 4, 5, 6] rfl)
    · refine lv_aload_n hx hb dL_law__2573 rfl (lv_at hl 6 rfl) ?_
      refine lv_iconst (v := 0) hx hb dL_law__2574 (by decide) ?_
      refine gx_lald E hw dL_law__2575 (fun v8 _ => ?_)
      refine lv_iload hx hb dL_law__2576 (lv_at hl 0 rfl) ?_
      refine lv_i2l (v := Int32.toInt64 z6.1) hx hb dL_law__2578 rfl ?_
      refine W.lcmp hx hb dL_law__2579 ?_
      refine cx_if_eq (tgt := 2585) E dL_law__2580 (by decide) (fun _ => ?_) (fun _ => ?_)
      · refine lv_goto (tgt := 2675) hx hb dL_law__2585 (by decide) ?_
        refine W.widen (k := c9 + 8) (n := d9 + 900) (by omega) (by omega) ?_
        exact hk z3.2 z6.2 _ _ _ hw (lv_sub hl [2, 3, 4, 5, 6] rfl)
      · refine lv_iconst (v := 0) hx hb dL_law__2583 (by decide) ?_
        exact W_none
  · refine lv_iconst (v := 0) hx hb dL_law__2566 (by decide) ?_
    exact W_none
set_option maxHeartbeats 4000000 in
set_option maxRecDepth 100000 in
theorem t_L_c39 {p : Program} {l : Launch} {e : Env} {s : State} {m : MethodId} {args : Array Value} {below : List Frame} {meth : Method} {c : Code} {H : Heap} {locs : List Loc} {ls : Array Slot} {G : wG} {M : Mem} {r : Rho} {xs : Nat → Int32} {L b9 x9 o9 c9 d9 N : Nat} {i9 : Int32} {kk : Mem → Rho → Option (Mem × Rho)} (hfl : l.stackTraces = false) (on : g_on G = true) (E : wE G p l s m args meth c cL_law_ "CheekTownLaw" 7) (hX : va_X b9 L xs s s.heap) (hbl : b9 < s.heap.size) (hbA : ¬ g_A G b9) (hw : w_W G M r s H locs) (hl : lv_has ls 7 [(4, .int i9), (0, .ref b9), (1, .ref x9), (2, .ref (g_r G)), (3, .ref o9)]) (hc : c9 + 8 ≤ 601024) (hd : d9 + 900 ≤ 7293034) (hk : ∀ (M : Mem) (r : Rho) (H : Heap) (locs : List Loc) (ls : Array Slot), w_W G M r s H locs → lv_has ls 7 [(4, .int i9), (0, .ref b9), (1, .ref x9), (2, .ref (g_r G)), (3, .ref o9)] → W p l e room_1 s m args below meth c H locs (c9 + 8) (d9 + 900) (PQ G below args s 601024 7293034 (fun z : Mem × Rho => (.inl (some (.int 1)), z)) (kk M r)) (F0 m 2675 ls [])) : W p l e room_1 s m args below meth c H locs c9 d9 (PQ G below args s 601024 7293034 (fun z : Mem × Rho => (.inl (some (.int 1)), z)) (f_L_c39 N xs L x9 o9 i9 M r kk)) (F0 m 2588 ls []) := by
  obtain ⟨hx, hb, hts, hown, hml, hTT, -⟩ := id E
  unfold f_L_c39
  refine lv_aload_n hx hb dL_law__2588 rfl (lv_at hl 2 rfl) ?_
  refine lv_aload_n hx hb dL_law__2589 rfl (lv_at hl 1 rfl) ?_
  refine lv_iload hx hb dL_law__2590 (lv_at hl 0 rfl) ?_
  refine lv_iconst (v := 1) hx hb dL_law__2592 (by decide) ?_
  refine lv_iadd hx hb dL_law__2593 ?_
  refine gx_sld E hw hX hbl hbA dL_law__2594 (fun v1 => ?_)
  refine W_bind fun _ hck => ?_
  refine W_bind fun z2 hz => ?_
  refine w_after (cells1 := c9 + 0) (slots1 := d9 + 0) (w_runV E kV_L_259 kc_X11_seed (t_CT_seed l hfl G x9 v1 M r ((fun z => (.inl (some (.int z.1)), z.2, r)) z2) (by rw [hz]; rfl)) ⟨Nat.le_of_ble_eq_true rfl, Nat.le_of_ble_eq_true rfl⟩ hw (w_recv E hw (by decide) ⟨_, _, rfl⟩ (ck_ok hck)) rfl hl.1 rfl (Nat.le_of_ble_eq_true rfl) dL_law__2595 ⟨by show c9 + 0 + 0 ≤ 601024; omega, by show d9 + 0 + 0 ≤ 7293034; omega⟩) hw rfl (by show c9 + 0 + 0 ≤ c9 + 0; omega) (by show d9 + 0 + 0 ≤ d9 + 0; omega) (fun H locs hw => ?_)
  refine W.eq (g2 := F0 m 2598 ls [.int z2.1]) rfl ?_
  have hw : w_W G z2.2 r s H locs := hw
  refine lv_aload_n hx hb dL_law__2598 rfl (lv_at hl 3 rfl) ?_
  refine lv_aload_n hx hb dL_law__2599 rfl (lv_at hl 1 rfl) ?_
  refine lv_iload hx hb dL_law__2600 (lv_at hl 0 rfl) ?_
  refine lv_iconst (v := 1) hx hb dL_law__2602 (by decide) ?_
  refine lv_iadd hx hb dL_law__2603 ?_
  refine gx_sld E hw hX hbl hbA dL_law__2604 (fun v3 => ?_)
  refine W_bind fun z4 hz => ?_
  refine w_after (cells1 := c9 + 0) (slots1 := d9 + 0) (w_runV E kV_L_262 kc_X12_seed (t_R_seed l hfl G on v3 z2.2 r ((fun z => (.inl (some (.int z.1)), z2.2, z.2)) z4) (by rw [hz]; rfl)) ⟨Nat.le_of_ble_eq_true rfl, Nat.le_of_ble_eq_true rfl⟩ hw (w_recvR E hw on) rfl hl.1 rfl (Nat.le_of_ble_eq_true rfl) dL_law__2605 ⟨by show c9 + 0 + 0 ≤ 601024; omega, by show d9 + 0 + 0 ≤ 7293034; omega⟩) hw rfl (by show c9 + 0 + 0 ≤ c9 + 0; omega) (by show d9 + 0 + 0 ≤ d9 + 0; omega) (fun H locs hw => ?_)
  refine W.eq (g2 := F0 m 2608 ls [.int z4.1, .int z2.1]) rfl ?_
  have hw : w_W G z2.2 z4.2 s H locs := hw
  refine cx_icmp_eq (tgt := 2675) E dL_law__2608 (by decide) (fun _ => ?_) (fun _ => ?_)
  · refine W.widen (k := c9 + 8) (n := d9 + 900) (by omega) (by omega) ?_
    exact hk z2.2 z4.2 _ _ _ hw (lv_sub hl [0, 1, 2, 3, 4] rfl)
  · refine lv_iconst (v := 0) hx hb dL_law__2611 (by decide) ?_
    exact W_none
set_option maxHeartbeats 4000000 in
set_option maxRecDepth 100000 in
theorem t_L_c40 {p : Program} {l : Launch} {e : Env} {s : State} {m : MethodId} {args : Array Value} {below : List Frame} {meth : Method} {c : Code} {H : Heap} {locs : List Loc} {ls : Array Slot} {G : wG} {M : Mem} {r : Rho} {xs : Nat → Int32} {L b9 x9 o9 c9 d9 N : Nat} {i9 : Int32} {kk : Mem → Rho → Option (Mem × Rho)} (hfl : l.stackTraces = false) (on : g_on G = true) (E : wE G p l s m args meth c cL_law_ "CheekTownLaw" 7) (hX : va_X b9 L xs s s.heap) (hbl : b9 < s.heap.size) (hbA : ¬ g_A G b9) (hw : w_W G M r s H locs) (hl : lv_has ls 7 [(4, .int i9), (0, .ref b9), (1, .ref x9), (2, .ref (g_r G)), (3, .ref o9)]) (hc : c9 + 8 ≤ 601024) (hd : d9 + 900 ≤ 7293034) (hk : ∀ (M : Mem) (r : Rho) (H : Heap) (locs : List Loc) (ls : Array Slot), w_W G M r s H locs → lv_has ls 7 [(4, .int i9), (0, .ref b9), (1, .ref x9), (2, .ref (g_r G)), (3, .ref o9)] → W p l e room_1 s m args below meth c H locs (c9 + 8) (d9 + 900) (PQ G below args s 601024 7293034 (fun z : Mem × Rho => (.inl (some (.int 1)), z)) (kk M r)) (F0 m 2675 ls [])) : W p l e room_1 s m args below meth c H locs c9 d9 (PQ G below args s 601024 7293034 (fun z : Mem × Rho => (.inl (some (.int 1)), z)) (f_L_c40 N xs L x9 o9 i9 M r kk)) (F0 m 2613 ls []) := by
  obtain ⟨hx, hb, hts, hown, hml, hTT, -⟩ := id E
  unfold f_L_c40
  refine lv_aload_n hx hb dL_law__2613 rfl (lv_at hl 2 rfl) ?_
  refine W_bind fun _ hck => ?_
  refine W_bind fun z1 hz => ?_
  refine w_after (cells1 := c9 + 0) (slots1 := d9 + 0) (w_runV E kV_L_263 kc_X11_undo (t_CT_undo l hfl G N x9 M r ((fun z => (.inl (some (.int z.1)), z.2, r)) z1) (by rw [hz]; rfl)) ⟨Nat.le_of_ble_eq_true rfl, Nat.le_of_ble_eq_true rfl⟩ hw (w_recv E hw (by decide) ⟨_, _, rfl⟩ (ck_ok hck)) rfl hl.1 rfl (Nat.le_of_ble_eq_true rfl) dL_law__2614 ⟨by show c9 + 0 + 0 ≤ 601024; omega, by show d9 + 0 + 0 ≤ 7293034; omega⟩) hw rfl (by show c9 + 0 + 0 ≤ c9 + 0; omega) (by show d9 + 0 + 0 ≤ d9 + 0; omega) (fun H locs hw => ?_)
  refine W.eq (g2 := F0 m 2617 ls [.int z1.1]) rfl ?_
  have hw : w_W G z1.2 r s H locs := hw
  refine lv_aload_n hx hb dL_law__2617 rfl (lv_at hl 3 rfl) ?_
  refine W_bind fun z2 hz => ?_
  refine w_after (cells1 := c9 + 0) (slots1 := d9 + 0) (w_runV E kV_L_267 kc_X12_undo (t_R_undo l hfl G on N z1.2 r ((fun z => (.inl (some (.int z.1)), z1.2, z.2)) z2) (by rw [hz]; rfl)) ⟨Nat.le_of_ble_eq_true rfl, Nat.le_of_ble_eq_true rfl⟩ hw (w_recvR E hw on) rfl hl.1 rfl (Nat.le_of_ble_eq_true rfl) dL_law__2618 ⟨by show c9 + 0 + 0 ≤ 601024; omega, by show d9 + 0 + 0 ≤ 7293034; omega⟩) hw rfl (by show c9 + 0 + 0 ≤ c9 + 0; omega) (by show d9 + 0 + 0 ≤ d9 + 0; omega) (fun H locs hw => ?_)
  refine W.eq (g2 := F0 m 2621 ls [.int z2.1, .int z1.1]) rfl ?_
  have hw : w_W G z1.2 z2.2 s H locs := hw
  refine cx_icmp_eq (tgt := 2675) E dL_law__2621 (by decide) (fun _ => ?_) (fun _ => ?_)
  · refine W.widen (k := c9 + 8) (n := d9 + 900) (by omega) (by omega) ?_
    exact hk z1.2 z2.2 _ _ _ hw (lv_sub hl [0, 1, 2, 3, 4] rfl)
  · refine lv_iconst (v := 0) hx hb dL_law__2624 (by decide) ?_
    exact W_none
set_option maxHeartbeats 4000000 in
set_option maxRecDepth 100000 in
theorem t_L_c41 {p : Program} {l : Launch} {e : Env} {s : State} {m : MethodId} {args : Array Value} {below : List Frame} {meth : Method} {c : Code} {H : Heap} {locs : List Loc} {ls : Array Slot} {G : wG} {M : Mem} {r : Rho} {xs : Nat → Int32} {L b9 x9 o9 c9 d9 N : Nat} {i9 : Int32} {kk : Mem → Rho → Option (Mem × Rho)} (hfl : l.stackTraces = false) (on : g_on G = true) (E : wE G p l s m args meth c cL_law_ "CheekTownLaw" 7) (hX : va_X b9 L xs s s.heap) (hbl : b9 < s.heap.size) (hbA : ¬ g_A G b9) (hw : w_W G M r s H locs) (hl : lv_has ls 7 [(4, .int i9), (0, .ref b9), (1, .ref x9), (2, .ref (g_r G)), (3, .ref o9)]) (hc : c9 + 8 ≤ 601024) (hd : d9 + 900 ≤ 7293034) (hk : ∀ (M : Mem) (r : Rho) (H : Heap) (locs : List Loc) (ls : Array Slot), w_W G M r s H locs → lv_has ls 7 [(4, .int i9), (0, .ref b9), (1, .ref x9), (2, .ref (g_r G)), (3, .ref o9)] → W p l e room_1 s m args below meth c H locs (c9 + 8) (d9 + 900) (PQ G below args s 601024 7293034 (fun z : Mem × Rho => (.inl (some (.int 1)), z)) (kk M r)) (F0 m 2675 ls [])) : W p l e room_1 s m args below meth c H locs c9 d9 (PQ G below args s 601024 7293034 (fun z : Mem × Rho => (.inl (some (.int 1)), z)) (f_L_c41 N xs L x9 o9 i9 M r kk)) (F0 m 2626 ls []) := by
  obtain ⟨hx, hb, hts, hown, hml, hTT, -⟩ := id E
  unfold f_L_c41
  refine lv_aload_n hx hb dL_law__2626 rfl (lv_at hl 2 rfl) ?_
  refine W_bind fun _ hck => ?_
  refine W_bind fun z1 hz => ?_
  refine w_after (cells1 := c9 + 0) (slots1 := d9 + 0) (w_runV E kV_L_268 kc_X11_image (t_CT_image l hfl G N x9 M r ((fun z => (.inl none, z, r)) z1) (by rw [hz]; rfl)) ⟨Nat.le_of_ble_eq_true rfl, Nat.le_of_ble_eq_true rfl⟩ hw (w_recv E hw (by decide) ⟨_, _, rfl⟩ (ck_ok hck)) rfl hl.1 rfl (Nat.le_of_ble_eq_true rfl) dL_law__2627 ⟨by show c9 + 0 + 0 ≤ 601024; omega, by show d9 + 0 + 0 ≤ 7293034; omega⟩) hw rfl (by show c9 + 0 + 0 ≤ c9 + 0; omega) (by show d9 + 0 + 0 ≤ d9 + 0; omega) (fun H locs hw => ?_)
  refine W.eq (g2 := F0 m 2630 ls []) rfl ?_
  have hw : w_W G z1 r s H locs := hw
  refine lv_aload_n hx hb dL_law__2630 rfl (lv_at hl 3 rfl) ?_
  refine W_bind fun z2 hz => ?_
  refine w_after (cells1 := c9 + 0) (slots1 := d9 + 0) (w_runV E kV_L_271 kc_X12_image (t_R_image l hfl G on N z1 r ((fun z => (.inl none, z1, z)) z2) (by rw [hz]; rfl)) ⟨Nat.le_of_ble_eq_true rfl, Nat.le_of_ble_eq_true rfl⟩ hw (w_recvR E hw on) rfl hl.1 rfl (Nat.le_of_ble_eq_true rfl) dL_law__2631 ⟨by show c9 + 0 + 0 ≤ 601024; omega, by show d9 + 0 + 0 ≤ 7293034; omega⟩) hw rfl (by show c9 + 0 + 0 ≤ c9 + 0; omega) (by show d9 + 0 + 0 ≤ d9 + 0; omega) (fun H locs hw => ?_)
  refine W.eq (g2 := F0 m 2634 ls []) rfl ?_
  have hw : w_W G z1 z2 s H locs := hw
  refine lv_goto (tgt := 2675) hx hb dL_law__2634 (by decide) ?_
  refine W.widen (k := c9 + 8) (n := d9 + 900) (by omega) (by omega) ?_
  exact hk z1 z2 _ _ _ hw (lv_sub hl [0, 1, 2, 3, 4] rfl)
set_option maxHeartbeats 4000000 in
set_option maxRecDepth 100000 in
theorem t_L_c42 {p : Program} {l : Launch} {e : Env} {s : State} {m : MethodId} {args : Array Value} {below : List Frame} {meth : Method} {c : Code} {H : Heap} {locs : List Loc} {ls : Array Slot} {G : wG} {M : Mem} {r : Rho} {xs : Nat → Int32} {L b9 x9 o9 c9 d9 N : Nat} {i9 : Int32} {kk : Mem → Rho → Option (Mem × Rho)} (hfl : l.stackTraces = false) (on : g_on G = true) (E : wE G p l s m args meth c cL_law_ "CheekTownLaw" 7) (hX : va_X b9 L xs s s.heap) (hbl : b9 < s.heap.size) (hbA : ¬ g_A G b9) (hw : w_W G M r s H locs) (hl : lv_has ls 7 [(4, .int i9), (0, .ref b9), (1, .ref x9), (2, .ref (g_r G)), (3, .ref o9)]) (hc : c9 + 8 ≤ 601024) (hd : d9 + 900 ≤ 7293034) (hk : ∀ (M : Mem) (r : Rho) (H : Heap) (locs : List Loc) (ls : Array Slot), w_W G M r s H locs → lv_has ls 7 [(4, .int i9), (0, .ref b9), (1, .ref x9), (2, .ref (g_r G)), (3, .ref o9)] → W p l e room_1 s m args below meth c H locs (c9 + 8) (d9 + 900) (PQ G below args s 601024 7293034 (fun z : Mem × Rho => (.inl (some (.int 1)), z)) (kk M r)) (F0 m 2675 ls [])) : W p l e room_1 s m args below meth c H locs c9 d9 (PQ G below args s 601024 7293034 (fun z : Mem × Rho => (.inl (some (.int 1)), z)) (f_L_c42 N xs L x9 o9 i9 M r kk)) (F0 m 2637 ls []) := by
  obtain ⟨hx, hb, hts, hown, hml, hTT, -⟩ := id E
  unfold f_L_c42
  refine lv_aload_n hx hb dL_law__2637 rfl (lv_at hl 2 rfl) ?_
  refine W_bind fun _ hck => ?_
  refine W_bind fun z1 hz => ?_
  refine w_after (cells1 := c9 + 0) (slots1 := d9 + 0) (w_runV E kV_L_272 kc_X11_back (t_CT_back l hfl G N x9 M r ((fun z => (.inl (some (.int z.1)), z.2, r)) z1) (by rw [hz]; rfl)) ⟨Nat.le_of_ble_eq_true rfl, Nat.le_of_ble_eq_true rfl⟩ hw (w_recv E hw (by decide) ⟨_, _, rfl⟩ (ck_ok hck)) rfl hl.1 rfl (Nat.le_of_ble_eq_true rfl) dL_law__2638 ⟨by show c9 + 0 + 0 ≤ 601024; omega, by show d9 + 0 + 0 ≤ 7293034; omega⟩) hw rfl (by show c9 + 0 + 0 ≤ c9 + 0; omega) (by show d9 + 0 + 0 ≤ d9 + 0; omega) (fun H locs hw => ?_)
  refine W.eq (g2 := F0 m 2641 ls [.int z1.1]) rfl ?_
  have hw : w_W G z1.2 r s H locs := hw
  refine lv_aload_n hx hb dL_law__2641 rfl (lv_at hl 3 rfl) ?_
  refine W_bind fun z2 hz => ?_
  refine w_after (cells1 := c9 + 0) (slots1 := d9 + 0) (w_runV E kV_L_275 kc_X12_back (t_R_back l hfl G on N z1.2 r ((fun z => (.inl (some (.int z.1)), z1.2, z.2)) z2) (by rw [hz]; rfl)) ⟨Nat.le_of_ble_eq_true rfl, Nat.le_of_ble_eq_true rfl⟩ hw (w_recvR E hw on) rfl hl.1 rfl (Nat.le_of_ble_eq_true rfl) dL_law__2642 ⟨by show c9 + 0 + 0 ≤ 601024; omega, by show d9 + 0 + 0 ≤ 7293034; omega⟩) hw rfl (by show c9 + 0 + 0 ≤ c9 + 0; omega) (by show d9 + 0 + 0 ≤ d9 + 0; omega) (fun H locs hw => ?_)
  refine W.eq (g2 := F0 m 2645 ls [.int z2.1, .int z1.1]) rfl ?_
  have hw : w_W G z1.2 z2.2 s H locs := hw
  refine cx_icmp_eq (tgt := 2675) E dL_law__2645 (by decide) (fun _ => ?_) (fun _ => ?_)
  · refine W.widen (k := c9 + 8) (n := d9 + 900) (by omega) (by omega) ?_
    exact hk z1.2 z2.2 _ _ _ hw (lv_sub hl [0, 1, 2, 3, 4] rfl)
  · refine lv_iconst (v := 0) hx hb dL_law__2648 (by decide) ?_
    exact W_none
set_option maxHeartbeats 4000000 in
set_option maxRecDepth 100000 in
theorem t_L_c43 {p : Program} {l : Launch} {e : Env} {s : State} {m : MethodId} {args : Array Value} {below : List Frame} {meth : Method} {c : Code} {H : Heap} {locs : List Loc} {ls : Array Slot} {G : wG} {M : Mem} {r : Rho} {xs : Nat → Int32} {L b9 x9 o9 c9 d9 N : Nat} {i9 : Int32} {kk : Mem → Rho → Option (Mem × Rho)} (hfl : l.stackTraces = false) (on : g_on G = true) (E : wE G p l s m args meth c cL_law_ "CheekTownLaw" 7) (hX : va_X b9 L xs s s.heap) (hbl : b9 < s.heap.size) (hbA : ¬ g_A G b9) (hw : w_W G M r s H locs) (hl : lv_has ls 7 [(4, .int i9), (0, .ref b9), (1, .ref x9), (2, .ref (g_r G)), (3, .ref o9)]) (hc : c9 + 8 ≤ 601024) (hd : d9 + 900 ≤ 7293034) (hk : ∀ (M : Mem) (r : Rho) (H : Heap) (locs : List Loc) (ls : Array Slot), w_W G M r s H locs → lv_has ls 7 [(4, .int i9), (0, .ref b9), (1, .ref x9), (2, .ref (g_r G)), (3, .ref o9)] → W p l e room_1 s m args below meth c H locs (c9 + 8) (d9 + 900) (PQ G below args s 601024 7293034 (fun z : Mem × Rho => (.inl (some (.int 1)), z)) (kk M r)) (F0 m 2675 ls [])) : W p l e room_1 s m args below meth c H locs c9 d9 (PQ G below args s 601024 7293034 (fun z : Mem × Rho => (.inl (some (.int 1)), z)) (f_L_c43 N xs L x9 o9 i9 M r kk)) (F0 m 2650 ls []) := by
  obtain ⟨hx, hb, hts, hown, hml, hTT, -⟩ := id E
  unfold f_L_c43
  refine lv_aload_n hx hb dL_law__2650 rfl (lv_at hl 2 rfl) ?_
  refine lv_aload_n hx hb dL_law__2651 rfl (lv_at hl 1 rfl) ?_
  refine lv_iload hx hb dL_law__2652 (lv_at hl 0 rfl) ?_
  refine lv_iconst (v := 1) hx hb dL_law__2654 (by decide) ?_
  refine lv_iadd hx hb dL_law__2655 ?_
  refine gx_sld E hw hX hbl hbA dL_law__2656 (fun v1 => ?_)
  refine W_bind fun _ hck => ?_
  refine W_bind fun z2 hz => ?_
  refine w_after (cells1 := c9 + 0) (slots1 := d9 + 0) (w_runV E kV_L_276 kc_X11_count (t_CT_count l hfl G N x9 v1 M r ((fun z => (.inl (some (.int z)), M, r)) z2) (by rw [hz]; rfl)) ⟨Nat.le_of_ble_eq_true rfl, Nat.le_of_ble_eq_true rfl⟩ hw (w_recv E hw (by decide) ⟨_, _, rfl⟩ (ck_ok hck)) rfl hl.1 rfl (Nat.le_of_ble_eq_true rfl) dL_law__2657 ⟨by show c9 + 0 + 0 ≤ 601024; omega, by show d9 + 0 + 0 ≤ 7293034; omega⟩) hw rfl (by show c9 + 0 + 0 ≤ c9 + 0; omega) (by show d9 + 0 + 0 ≤ d9 + 0; omega) (fun H locs hw => ?_)
  refine W.eq (g2 := F0 m 2660 ls [.int z2]) rfl ?_
  have hw : w_W G M r s H locs := hw
  refine lv_aload_n hx hb dL_law__2660 rfl (lv_at hl 3 rfl) ?_
  refine lv_aload_n hx hb dL_law__2661 rfl (lv_at hl 1 rfl) ?_
  refine lv_iload hx hb dL_law__2662 (lv_at hl 0 rfl) ?_
  refine lv_iconst (v := 1) hx hb dL_law__2664 (by decide) ?_
  refine lv_iadd hx hb dL_law__2665 ?_
  refine gx_sld E hw hX hbl hbA dL_law__2666 (fun v3 => ?_)
  refine W_bind fun z4 hz => ?_
  refine w_after (cells1 := c9 + 0) (slots1 := d9 + 0) (w_runV E kV_L_279 kc_X12_count (t_R_count l hfl G on N v3 M r ((fun z => (.inl (some (.int z.1)), M, z.2)) z4) (by rw [hz]; rfl)) ⟨Nat.le_of_ble_eq_true rfl, Nat.le_of_ble_eq_true rfl⟩ hw (w_recvR E hw on) rfl hl.1 rfl (Nat.le_of_ble_eq_true rfl) dL_law__2667 ⟨by show c9 + 0 + 0 ≤ 601024; omega, by show d9 + 0 + 0 ≤ 7293034; omega⟩) hw rfl (by show c9 + 0 + 0 ≤ c9 + 0; omega) (by show d9 + 0 + 0 ≤ d9 + 0; omega) (fun H locs hw => ?_)
  refine W.eq (g2 := F0 m 2670 ls [.int z4.1, .int z2]) rfl ?_
  have hw : w_W G M z4.2 s H locs := hw
  refine cx_icmp_eq (tgt := 2675) E dL_law__2670 (by decide) (fun _ => ?_) (fun _ => ?_)
  · refine W.widen (k := c9 + 8) (n := d9 + 900) (by omega) (by omega) ?_
    exact hk M z4.2 _ _ _ hw (lv_sub hl [0, 1, 2, 3, 4] rfl)
  · refine lv_iconst (v := 0) hx hb dL_law__2673 (by decide) ?_
    exact W_none
set_option maxHeartbeats 4000000 in
set_option maxRecDepth 100000 in
theorem t_L_step {p : Program} {l : Launch} {e : Env} {s : State} {m : MethodId} {args : Array Value} {below : List Frame} {meth : Method} {c : Code} {H : Heap} {locs : List Loc} {ls : Array Slot} {G : wG} {M : Mem} {r : Rho} {xs : Nat → Int32} {L b9 x9 o9 c9 d9 N : Nat} {i9 : Int32} {kk : Mem → Rho → Option (Mem × Rho)} (hfl : l.stackTraces = false) (on : g_on G = true) (E : wE G p l s m args meth c cL_law_ "CheekTownLaw" 7) (hX : va_X b9 L xs s s.heap) (hbl : b9 < s.heap.size) (hbA : ¬ g_A G b9) (hw : w_W G M r s H locs) (hl : lv_has ls 7 [(4, .int i9), (0, .ref b9), (1, .ref x9), (2, .ref (g_r G)), (3, .ref o9)]) (hc : c9 + 8 ≤ 601024) (hd : d9 + 900 ≤ 7293034) (hk : ∀ (M : Mem) (r : Rho) (H : Heap) (locs : List Loc) (ls : Array Slot), w_W G M r s H locs → lv_has ls 7 [(4, .int i9), (0, .ref b9), (1, .ref x9), (2, .ref (g_r G)), (3, .ref o9)] → W p l e room_1 s m args below meth c H locs (c9 + 8) (d9 + 900) (PQ G below args s 601024 7293034 (fun z : Mem × Rho => (.inl (some (.int 1)), z)) (kk M r)) (F0 m 2675 ls [])) : W p l e room_1 s m args below meth c H locs c9 d9 (PQ G below args s 601024 7293034 (fun z : Mem × Rho => (.inl (some (.int 1)), z)) (f_L_step N xs L x9 o9 i9 M r kk)) (F0 m 33 ls []) := by
  obtain ⟨hx, hb, hts, hown, hml, hTT, -⟩ := id E
  unfold f_L_step
  refine lv_aload_n hx hb dL_law__33 rfl (lv_at hl 1 rfl) ?_
  refine lv_iload hx hb dL_law__34 (lv_at hl 0 rfl) ?_
  refine gx_sld E hw hX hbl hbA dL_law__36 (fun v => ?_)
  refine lv_bipush (v := 63) hx hb dL_law__37 (by decide) ?_
  refine lv_iand hx hb dL_law__39 ?_
  have h0 : (v &&& 63).toInt < 0 ∨ (0 : Int) ≤ (v &&& 63).toInt := by omega
  refine cx_tab 0 (tgt := 232) E dL_law__40 (by decide) (by decide) rfl (by decide) (fun _ => t_L_c0 hfl on E hX hbl hbA hw hl hc hd hk) (fun hn => ?_)
  have h1 : (v &&& 63).toInt < 0 ∨ (1 : Int) ≤ (v &&& 63).toInt := tab_step h0 (by simpa using hn)
  refine cx_tab 1 (tgt := 305) E dL_law__40 (by decide) (by decide) rfl (by decide) (fun _ => t_L_c1 hfl on E hX hbl hbA hw hl hc hd hk) (fun hn => ?_)
  have h2 : (v &&& 63).toInt < 0 ∨ (2 : Int) ≤ (v &&& 63).toInt := tab_step h1 (by simpa using hn)
  refine cx_tab 2 (tgt := 330) E dL_law__40 (by decide) (by decide) rfl (by decide) (fun _ => t_L_c2 hfl on E hX hbl hbA hw hl hc hd hk) (fun hn => ?_)
  have h3 : (v &&& 63).toInt < 0 ∨ (3 : Int) ≤ (v &&& 63).toInt := tab_step h2 (by simpa using hn)
  refine cx_tab 3 (tgt := 374) E dL_law__40 (by decide) (by decide) rfl (by decide) (fun _ => t_L_c3 hfl on E hX hbl hbA hw hl hc hd hk) (fun hn => ?_)
  have h4 : (v &&& 63).toInt < 0 ∨ (4 : Int) ≤ (v &&& 63).toInt := tab_step h3 (by simpa using hn)
  refine cx_tab 4 (tgt := 418) E dL_law__40 (by decide) (by decide) rfl (by decide) (fun _ => t_L_c4 hfl on E hX hbl hbA hw hl hc hd hk) (fun hn => ?_)
  have h5 : (v &&& 63).toInt < 0 ∨ (5 : Int) ≤ (v &&& 63).toInt := tab_step h4 (by simpa using hn)
  refine cx_tab 5 (tgt := 431) E dL_law__40 (by decide) (by decide) rfl (by decide) (fun _ => t_L_c5 hfl on E hX hbl hbA hw hl hc hd hk) (fun hn => ?_)
  have h6 : (v &&& 63).toInt < 0 ∨ (6 : Int) ≤ (v &&& 63).toInt := tab_step h5 (by simpa using hn)
  refine cx_tab 6 (tgt := 499) E dL_law__40 (by decide) (by decide) rfl (by decide) (fun _ => t_L_c6 hfl on E hX hbl hbA hw hl hc hd hk) (fun hn => ?_)
  have h7 : (v &&& 63).toInt < 0 ∨ (7 : Int) ≤ (v &&& 63).toInt := tab_step h6 (by simpa using hn)
  refine cx_tab 7 (tgt := 567) E dL_law__40 (by decide) (by decide) rfl (by decide) (fun _ => t_L_c7 hfl on E hX hbl hbA hw hl hc hd hk) (fun hn => ?_)
  have h8 : (v &&& 63).toInt < 0 ∨ (8 : Int) ≤ (v &&& 63).toInt := tab_step h7 (by simpa using hn)
  refine cx_tab 8 (tgt := 635) E dL_law__40 (by decide) (by decide) rfl (by decide) (fun _ => t_L_c8 hfl on E hX hbl hbA hw hl hc hd hk) (fun hn => ?_)
  have h9 : (v &&& 63).toInt < 0 ∨ (9 : Int) ≤ (v &&& 63).toInt := tab_step h8 (by simpa using hn)
  refine cx_tab 9 (tgt := 731) E dL_law__40 (by decide) (by decide) rfl (by decide) (fun _ => t_L_c9 hfl on E hX hbl hbA hw hl hc hd hk) (fun hn => ?_)
  have h10 : (v &&& 63).toInt < 0 ∨ (10 : Int) ≤ (v &&& 63).toInt := tab_step h9 (by simpa using hn)
  refine cx_tab 10 (tgt := 815) E dL_law__40 (by decide) (by decide) rfl (by decide) (fun _ => t_L_c10 hfl on E hX hbl hbA hw hl hc hd hk) (fun hn => ?_)
  have h11 : (v &&& 63).toInt < 0 ∨ (11 : Int) ≤ (v &&& 63).toInt := tab_step h10 (by simpa using hn)
  refine cx_tab 11 (tgt := 883) E dL_law__40 (by decide) (by decide) rfl (by decide) (fun _ => t_L_c11 hfl on E hX hbl hbA hw hl hc hd hk) (fun hn => ?_)
  have h12 : (v &&& 63).toInt < 0 ∨ (12 : Int) ≤ (v &&& 63).toInt := tab_step h11 (by simpa using hn)
  refine cx_tab 12 (tgt := 951) E dL_law__40 (by decide) (by decide) rfl (by decide) (fun _ => t_L_c12 hfl on E hX hbl hbA hw hl hc hd hk) (fun hn => ?_)
  have h13 : (v &&& 63).toInt < 0 ∨ (13 : Int) ≤ (v &&& 63).toInt := tab_step h12 (by simpa using hn)
  refine cx_tab 13 (tgt := 1007) E dL_law__40 (by decide) (by decide) rfl (by decide) (fun _ => t_L_c13 hfl on E hX hbl hbA hw hl hc hd hk) (fun hn => ?_)
  have h14 : (v &&& 63).toInt < 0 ∨ (14 : Int) ≤ (v &&& 63).toInt := tab_step h13 (by simpa using hn)
  refine cx_tab 14 (tgt := 1075) E dL_law__40 (by decide) (by decide) rfl (by decide) (fun _ => t_L_c14 hfl on E hX hbl hbA hw hl hc hd hk) (fun hn => ?_)
  have h15 : (v &&& 63).toInt < 0 ∨ (15 : Int) ≤ (v &&& 63).toInt := tab_step h14 (by simpa using hn)
  refine cx_tab 15 (tgt := 1166) E dL_law__40 (by decide) (by decide) rfl (by decide) (fun _ => t_L_c15 hfl on E hX hbl hbA hw hl hc hd hk) (fun hn => ?_)
  have h16 : (v &&& 63).toInt < 0 ∨ (16 : Int) ≤ (v &&& 63).toInt := tab_step h15 (by simpa using hn)
  refine cx_tab 16 (tgt := 1234) E dL_law__40 (by decide) (by decide) rfl (by decide) (fun _ => t_L_c16 hfl on E hX hbl hbA hw hl hc hd hk) (fun hn => ?_)
  have h17 : (v &&& 63).toInt < 0 ∨ (17 : Int) ≤ (v &&& 63).toInt := tab_step h16 (by simpa using hn)
  refine cx_tab 17 (tgt := 1290) E dL_law__40 (by decide) (by decide) rfl (by decide) (fun _ => t_L_c17 hfl on E hX hbl hbA hw hl hc hd hk) (fun hn => ?_)
  have h18 : (v &&& 63).toInt < 0 ∨ (18 : Int) ≤ (v &&& 63).toInt := tab_step h17 (by simpa using hn)
  refine cx_tab 18 (tgt := 1358) E dL_law__40 (by decide) (by decide) rfl (by decide) (fun _ => t_L_c18 hfl on E hX hbl hbA hw hl hc hd hk) (fun hn => ?_)
  have h19 : (v &&& 63).toInt < 0 ∨ (19 : Int) ≤ (v &&& 63).toInt := tab_step h18 (by simpa using hn)
  refine cx_tab 19 (tgt := 1426) E dL_law__40 (by decide) (by decide) rfl (by decide) (fun _ => t_L_c19 hfl on E hX hbl hbA hw hl hc hd hk) (fun hn => ?_)
  have h20 : (v &&& 63).toInt < 0 ∨ (20 : Int) ≤ (v &&& 63).toInt := tab_step h19 (by simpa using hn)
  refine cx_tab 20 (tgt := 1482) E dL_law__40 (by decide) (by decide) rfl (by decide) (fun _ => t_L_c20 hfl on E hX hbl hbA hw hl hc hd hk) (fun hn => ?_)
  have h21 : (v &&& 63).toInt < 0 ∨ (21 : Int) ≤ (v &&& 63).toInt := tab_step h20 (by simpa using hn)
  refine cx_tab 21 (tgt := 1523) E dL_law__40 (by decide) (by decide) rfl (by decide) (fun _ => t_L_c21 hfl on E hX hbl hbA hw hl hc hd hk) (fun hn => ?_)
  have h22 : (v &&& 63).toInt < 0 ∨ (22 : Int) ≤ (v &&& 63).toInt := tab_step h21 (by simpa using hn)
  refine cx_tab 22 (tgt := 1591) E dL_law__40 (by decide) (by decide) rfl (by decide) (fun _ => t_L_c22 hfl on E hX hbl hbA hw hl hc hd hk) (fun hn => ?_)
  have h23 : (v &&& 63).toInt < 0 ∨ (23 : Int) ≤ (v &&& 63).toInt := tab_step h22 (by simpa using hn)
  refine cx_tab 23 (tgt := 1663) E dL_law__40 (by decide) (by decide) rfl (by decide) (fun _ => t_L_c23 hfl on E hX hbl hbA hw hl hc hd hk) (fun hn => ?_)
  have h24 : (v &&& 63).toInt < 0 ∨ (24 : Int) ≤ (v &&& 63).toInt := tab_step h23 (by simpa using hn)
  refine cx_tab 24 (tgt := 1676) E dL_law__40 (by decide) (by decide) rfl (by decide) (fun _ => t_L_c24 hfl on E hX hbl hbA hw hl hc hd hk) (fun hn => ?_)
  have h25 : (v &&& 63).toInt < 0 ∨ (25 : Int) ≤ (v &&& 63).toInt := tab_step h24 (by simpa using hn)
  refine cx_tab 25 (tgt := 1744) E dL_law__40 (by decide) (by decide) rfl (by decide) (fun _ => t_L_c25 hfl on E hX hbl hbA hw hl hc hd hk) (fun hn => ?_)
  have h26 : (v &&& 63).toInt < 0 ∨ (26 : Int) ≤ (v &&& 63).toInt := tab_step h25 (by simpa using hn)
  refine cx_tab 26 (tgt := 1840) E dL_law__40 (by decide) (by decide) rfl (by decide) (fun _ => t_L_c26 hfl on E hX hbl hbA hw hl hc hd hk) (fun hn => ?_)
  have h27 : (v &&& 63).toInt < 0 ∨ (27 : Int) ≤ (v &&& 63).toInt := tab_step h26 (by simpa using hn)
  refine cx_tab 27 (tgt := 1877) E dL_law__40 (by decide) (by decide) rfl (by decide) (fun _ => t_L_c27 hfl on E hX hbl hbA hw hl hc hd hk) (fun hn => ?_)
  have h28 : (v &&& 63).toInt < 0 ∨ (28 : Int) ≤ (v &&& 63).toInt := tab_step h27 (by simpa using hn)
  refine cx_tab 28 (tgt := 1918) E dL_law__40 (by decide) (by decide) rfl (by decide) (fun _ => t_L_c28 hfl on E hX hbl hbA hw hl hc hd hk) (fun hn => ?_)
  have h29 : (v &&& 63).toInt < 0 ∨ (29 : Int) ≤ (v &&& 63).toInt := tab_step h28 (by simpa using hn)
  refine cx_tab 29 (tgt := 1974) E dL_law__40 (by decide) (by decide) rfl (by decide) (fun _ => t_L_c29 hfl on E hX hbl hbA hw hl hc hd hk) (fun hn => ?_)
  have h30 : (v &&& 63).toInt < 0 ∨ (30 : Int) ≤ (v &&& 63).toInt := tab_step h29 (by simpa using hn)
  refine cx_tab 30 (tgt := 2042) E dL_law__40 (by decide) (by decide) rfl (by decide) (fun _ => t_L_c30 hfl on E hX hbl hbA hw hl hc hd hk) (fun hn => ?_)
  have h31 : (v &&& 63).toInt < 0 ∨ (31 : Int) ≤ (v &&& 63).toInt := tab_step h30 (by simpa using hn)
  refine cx_tab 31 (tgt := 2110) E dL_law__40 (by decide) (by decide) rfl (by decide) (fun _ => t_L_c31 hfl on E hX hbl hbA hw hl hc hd hk) (fun hn => ?_)
  have h32 : (v &&& 63).toInt < 0 ∨ (32 : Int) ≤ (v &&& 63).toInt := tab_step h31 (by simpa using hn)
  refine cx_tab 32 (tgt := 2123) E dL_law__40 (by decide) (by decide) rfl (by decide) (fun _ => t_L_c32 hfl on E hX hbl hbA hw hl hc hd hk) (fun hn => ?_)
  have h33 : (v &&& 63).toInt < 0 ∨ (33 : Int) ≤ (v &&& 63).toInt := tab_step h32 (by simpa using hn)
  refine cx_tab 33 (tgt := 2191) E dL_law__40 (by decide) (by decide) rfl (by decide) (fun _ => t_L_c33 hfl on E hX hbl hbA hw hl hc hd hk) (fun hn => ?_)
  have h34 : (v &&& 63).toInt < 0 ∨ (34 : Int) ≤ (v &&& 63).toInt := tab_step h33 (by simpa using hn)
  refine cx_tab 34 (tgt := 2259) E dL_law__40 (by decide) (by decide) rfl (by decide) (fun _ => t_L_c34 hfl on E hX hbl hbA hw hl hc hd hk) (fun hn => ?_)
  have h35 : (v &&& 63).toInt < 0 ∨ (35 : Int) ≤ (v &&& 63).toInt := tab_step h34 (by simpa using hn)
  refine cx_tab 35 (tgt := 2327) E dL_law__40 (by decide) (by decide) rfl (by decide) (fun _ => t_L_c35 hfl on E hX hbl hbA hw hl hc hd hk) (fun hn => ?_)
  have h36 : (v &&& 63).toInt < 0 ∨ (36 : Int) ≤ (v &&& 63).toInt := tab_step h35 (by simpa using hn)
  refine cx_tab 36 (tgt := 2368) E dL_law__40 (by decide) (by decide) rfl (by decide) (fun _ => t_L_c36 hfl on E hX hbl hbA hw hl hc hd hk) (fun hn => ?_)
  have h37 : (v &&& 63).toInt < 0 ∨ (37 : Int) ≤ (v &&& 63).toInt := tab_step h36 (by simpa using hn)
  refine cx_tab 37 (tgt := 2436) E dL_law__40 (by decide) (by decide) rfl (by decide) (fun _ => t_L_c37 hfl on E hX hbl hbA hw hl hc hd hk) (fun hn => ?_)
  have h38 : (v &&& 63).toInt < 0 ∨ (38 : Int) ≤ (v &&& 63).toInt := tab_step h37 (by simpa using hn)
  refine cx_tab 38 (tgt := 2520) E dL_law__40 (by decide) (by decide) rfl (by decide) (fun _ => t_L_c38 hfl on E hX hbl hbA hw hl hc hd hk) (fun hn => ?_)
  have h39 : (v &&& 63).toInt < 0 ∨ (39 : Int) ≤ (v &&& 63).toInt := tab_step h38 (by simpa using hn)
  refine cx_tab 39 (tgt := 2588) E dL_law__40 (by decide) (by decide) rfl (by decide) (fun _ => t_L_c39 hfl on E hX hbl hbA hw hl hc hd hk) (fun hn => ?_)
  have h40 : (v &&& 63).toInt < 0 ∨ (40 : Int) ≤ (v &&& 63).toInt := tab_step h39 (by simpa using hn)
  refine cx_tab 40 (tgt := 2613) E dL_law__40 (by decide) (by decide) rfl (by decide) (fun _ => t_L_c40 hfl on E hX hbl hbA hw hl hc hd hk) (fun hn => ?_)
  have h41 : (v &&& 63).toInt < 0 ∨ (41 : Int) ≤ (v &&& 63).toInt := tab_step h40 (by simpa using hn)
  refine cx_tab 41 (tgt := 2626) E dL_law__40 (by decide) (by decide) rfl (by decide) (fun _ => t_L_c41 hfl on E hX hbl hbA hw hl hc hd hk) (fun hn => ?_)
  have h42 : (v &&& 63).toInt < 0 ∨ (42 : Int) ≤ (v &&& 63).toInt := tab_step h41 (by simpa using hn)
  refine cx_tab 42 (tgt := 2637) E dL_law__40 (by decide) (by decide) rfl (by decide) (fun _ => t_L_c42 hfl on E hX hbl hbA hw hl hc hd hk) (fun hn => ?_)
  have h43 : (v &&& 63).toInt < 0 ∨ (43 : Int) ≤ (v &&& 63).toInt := tab_step h42 (by simpa using hn)
  refine cx_tab 43 (tgt := 2650) E dL_law__40 (by decide) (by decide) rfl (by decide) (fun _ => t_L_c43 hfl on E hX hbl hbA hw hl hc hd hk) (fun hn => ?_)
  have h44 : (v &&& 63).toInt < 0 ∨ (44 : Int) ≤ (v &&& 63).toInt := tab_step h43 (by simpa using hn)
  refine lv_tableOut (tgt := 2675) hx hb dL_law__40 (by omega) (by decide) ?_
  refine W.widen (k := c9 + 8) (n := d9 + 900) (by omega) (by omega) ?_
  exact hk M r _ _ _ hw hl
