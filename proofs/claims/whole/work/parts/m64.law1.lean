set_option maxHeartbeats 4000000 in
set_option maxRecDepth 100000 in
theorem t_L_c0 {p : Program} {l : Launch} {e : Env} {s : State} {m : MethodId} {args : Array Value} {below : List Frame} {meth : Method} {c : Code} {H : Heap} {locs : List Loc} {ls : Array Slot} {G : wG} {M : Mem} {r : Rho} {xs : Nat → Int32} {L b9 x9 o9 c9 d9 N : Nat} {i9 : Int32} {kk : Mem → Rho → Option (Mem × Rho)} (hfl : l.stackTraces = false) (on : g_on G = true) (E : wE G p l s m args meth c cL_law_ "CheekTownLaw" 7) (hX : va_X b9 L xs s s.heap) (hbl : b9 < s.heap.size) (hbA : ¬ g_A G b9) (hw : w_W G M r s H locs) (hl : lv_has ls 7 [(4, .int i9), (0, .ref b9), (1, .ref x9), (2, .ref (g_r G)), (3, .ref o9)]) (hc : c9 + 8 ≤ 601024) (hd : d9 + 900 ≤ 7293034) (hk : ∀ (M : Mem) (r : Rho) (H : Heap) (locs : List Loc) (ls : Array Slot), w_W G M r s H locs → lv_has ls 7 [(4, .int i9), (0, .ref b9), (1, .ref x9), (2, .ref (g_r G)), (3, .ref o9)] → W p l e room_1 s m args below meth c H locs (c9 + 8) (d9 + 900) (PQ G below args s 601024 7293034 (fun z : Mem × Rho => (.inl (some (.int 1)), z)) (kk M r)) (F0 m 2675 ls [])) : W p l e room_1 s m args below meth c H locs c9 d9 (PQ G below args s 601024 7293034 (fun z : Mem × Rho => (.inl (some (.int 1)), z)) (f_L_c0 N xs L x9 o9 i9 M r kk)) (F0 m 232 ls []) := by
  obtain ⟨hx, hb, hts, hown, hml, hTT, -⟩ := id E
  unfold f_L_c0
  refine lv_aload_n hx hb dL_law__232 rfl (lv_at hl 2 rfl) ?_
  refine lv_aload_n hx hb dL_law__233 rfl (lv_at hl 1 rfl) ?_
  refine lv_iload hx hb dL_law__234 (lv_at hl 0 rfl) ?_
  refine lv_iconst (v := 1) hx hb dL_law__236 (by decide) ?_
  refine lv_iadd hx hb dL_law__237 ?_
  refine gx_sld E hw hX hbl hbA dL_law__238 (fun v1 => ?_)
  refine lv_aload_n hx hb dL_law__239 rfl (lv_at hl 1 rfl) ?_
  refine lv_iload hx hb dL_law__240 (lv_at hl 0 rfl) ?_
  refine lv_iconst (v := 2) hx hb dL_law__242 (by decide) ?_
  refine lv_iadd hx hb dL_law__243 ?_
  refine gx_sld E hw hX hbl hbA dL_law__244 (fun v2 => ?_)
  refine lv_aload_n hx hb dL_law__245 rfl (lv_at hl 1 rfl) ?_
  refine lv_iload hx hb dL_law__246 (lv_at hl 0 rfl) ?_
  refine lv_iconst (v := 3) hx hb dL_law__248 (by decide) ?_
  refine lv_iadd hx hb dL_law__249 ?_
  refine gx_sld E hw hX hbl hbA dL_law__250 (fun v3 => ?_)
  refine lv_aload_n hx hb dL_law__251 rfl (lv_at hl 1 rfl) ?_
  refine lv_iload hx hb dL_law__252 (lv_at hl 0 rfl) ?_
  refine lv_iconst (v := 4) hx hb dL_law__254 (by decide) ?_
  refine lv_iadd hx hb dL_law__255 ?_
  refine gx_sld E hw hX hbl hbA dL_law__256 (fun v4 => ?_)
  refine lv_aload_n hx hb dL_law__257 rfl (lv_at hl 1 rfl) ?_
  refine lv_iload hx hb dL_law__258 (lv_at hl 0 rfl) ?_
  refine lv_iconst (v := 5) hx hb dL_law__260 (by decide) ?_
  refine lv_iadd hx hb dL_law__261 ?_
  refine gx_sld E hw hX hbl hbA dL_law__262 (fun v5 => ?_)
  refine W_bind fun _ hck => ?_
  refine W_bind fun z6 hz => ?_
  refine w_after (cells1 := c9 + 0) (slots1 := d9 + 0) (w_runV E kV_L_120 kc_X11_feed (t_CT_feed l hfl G N x9 v1 v2 v3 v4 v5 M r ((fun z => (.inl (some (.int z.1)), z.2, r)) z6) (by rw [hz]; rfl)) ⟨Nat.le_of_ble_eq_true rfl, Nat.le_of_ble_eq_true rfl⟩ hw (w_recv E hw (by decide) ⟨_, _, rfl⟩ (ck_ok hck)) rfl hl.1 rfl (Nat.le_of_ble_eq_true rfl) dL_law__263 ⟨by show c9 + 0 + 0 ≤ 601024; omega, by show d9 + 0 + 0 ≤ 7293034; omega⟩) hw rfl (by show c9 + 0 + 0 ≤ c9 + 0; omega) (by show d9 + 0 + 0 ≤ d9 + 0; omega) (fun H locs hw => ?_)
  refine W.eq (g2 := F0 m 266 ls [.int z6.1]) rfl ?_
  have hw : w_W G z6.2 r s H locs := hw
  refine lv_aload_n hx hb dL_law__266 rfl (lv_at hl 3 rfl) ?_
  refine lv_aload_n hx hb dL_law__267 rfl (lv_at hl 1 rfl) ?_
  refine lv_iload hx hb dL_law__268 (lv_at hl 0 rfl) ?_
  refine lv_iconst (v := 1) hx hb dL_law__270 (by decide) ?_
  refine lv_iadd hx hb dL_law__271 ?_
  refine gx_sld E hw hX hbl hbA dL_law__272 (fun v7 => ?_)
  refine lv_aload_n hx hb dL_law__273 rfl (lv_at hl 1 rfl) ?_
  refine lv_iload hx hb dL_law__274 (lv_at hl 0 rfl) ?_
  refine lv_iconst (v := 2) hx hb dL_law__276 (by decide) ?_
  refine lv_iadd hx hb dL_law__277 ?_
  refine gx_sld E hw hX hbl hbA dL_law__278 (fun v8 => ?_)
  refine lv_aload_n hx hb dL_law__279 rfl (lv_at hl 1 rfl) ?_
  refine lv_iload hx hb dL_law__280 (lv_at hl 0 rfl) ?_
  refine lv_iconst (v := 3) hx hb dL_law__282 (by decide) ?_
  refine lv_iadd hx hb dL_law__283 ?_
  refine gx_sld E hw hX hbl hbA dL_law__284 (fun v9 => ?_)
  refine lv_aload_n hx hb dL_law__285 rfl (lv_at hl 1 rfl) ?_
  refine lv_iload hx hb dL_law__286 (lv_at hl 0 rfl) ?_
  refine lv_iconst (v := 4) hx hb dL_law__288 (by decide) ?_
  refine lv_iadd hx hb dL_law__289 ?_
  refine gx_sld E hw hX hbl hbA dL_law__290 (fun v10 => ?_)
  refine lv_aload_n hx hb dL_law__291 rfl (lv_at hl 1 rfl) ?_
  refine lv_iload hx hb dL_law__292 (lv_at hl 0 rfl) ?_
  refine lv_iconst (v := 5) hx hb dL_law__294 (by decide) ?_
  refine lv_iadd hx hb dL_law__295 ?_
  refine gx_sld E hw hX hbl hbA dL_law__296 (fun v11 => ?_)
  refine W_bind fun z12 hz => ?_
  refine w_after (cells1 := c9 + 0) (slots1 := d9 + 0) (w_runV E kV_L_124 kc_X12_feed (t_R_feed l hfl G on N v7 v8 v9 v10 v11 z6.2 r ((fun z => (.inl (some (.int z.1)), z6.2, z.2)) z12) (by rw [hz]; rfl)) ⟨Nat.le_of_ble_eq_true rfl, Nat.le_of_ble_eq_true rfl⟩ hw (w_recvR E hw on) rfl hl.1 rfl (Nat.le_of_ble_eq_true rfl) dL_law__297 ⟨by show c9 + 0 + 0 ≤ 601024; omega, by show d9 + 0 + 0 ≤ 7293034; omega⟩) hw rfl (by show c9 + 0 + 0 ≤ c9 + 0; omega) (by show d9 + 0 + 0 ≤ d9 + 0; omega) (fun H locs hw => ?_)
  refine W.eq (g2 := F0 m 300 ls [.int z12.1, .int z6.1]) rfl ?_
  have hw : w_W G z6.2 z12.2 s H locs := hw
  refine cx_icmp_eq (tgt := 2675) E dL_law__300 (by decide) (fun _ => ?_) (fun _ => ?_)
  · refine W.widen (k := c9 + 8) (n := d9 + 900) (by omega) (by omega) ?_
    exact hk z6.2 z12.2 _ _ _ hw (lv_sub hl [0, 1, 2, 3, 4] rfl)
  · refine lv_iconst (v := 0) hx hb dL_law__303 (by decide) ?_
    exact W_none
set_option maxHeartbeats 4000000 in
set_option maxRecDepth 100000 in
theorem t_L_c1 {p : Program} {l : Launch} {e : Env} {s : State} {m : MethodId} {args : Array Value} {below : List Frame} {meth : Method} {c : Code} {H : Heap} {locs : List Loc} {ls : Array Slot} {G : wG} {M : Mem} {r : Rho} {xs : Nat → Int32} {L b9 x9 o9 c9 d9 N : Nat} {i9 : Int32} {kk : Mem → Rho → Option (Mem × Rho)} (hfl : l.stackTraces = false) (on : g_on G = true) (E : wE G p l s m args meth c cL_law_ "CheekTownLaw" 7) (hX : va_X b9 L xs s s.heap) (hbl : b9 < s.heap.size) (hbA : ¬ g_A G b9) (hw : w_W G M r s H locs) (hl : lv_has ls 7 [(4, .int i9), (0, .ref b9), (1, .ref x9), (2, .ref (g_r G)), (3, .ref o9)]) (hc : c9 + 8 ≤ 601024) (hd : d9 + 900 ≤ 7293034) (hk : ∀ (M : Mem) (r : Rho) (H : Heap) (locs : List Loc) (ls : Array Slot), w_W G M r s H locs → lv_has ls 7 [(4, .int i9), (0, .ref b9), (1, .ref x9), (2, .ref (g_r G)), (3, .ref o9)] → W p l e room_1 s m args below meth c H locs (c9 + 8) (d9 + 900) (PQ G below args s 601024 7293034 (fun z : Mem × Rho => (.inl (some (.int 1)), z)) (kk M r)) (F0 m 2675 ls [])) : W p l e room_1 s m args below meth c H locs c9 d9 (PQ G below args s 601024 7293034 (fun z : Mem × Rho => (.inl (some (.int 1)), z)) (f_L_c1 N xs L x9 o9 i9 M r kk)) (F0 m 305 ls []) := by
  obtain ⟨hx, hb, hts, hown, hml, hTT, -⟩ := id E
  unfold f_L_c1
  refine lv_aload_n hx hb dL_law__305 rfl (lv_at hl 2 rfl) ?_
  refine lv_aload_n hx hb dL_law__306 rfl (lv_at hl 1 rfl) ?_
  refine lv_iload hx hb dL_law__307 (lv_at hl 0 rfl) ?_
  refine lv_iconst (v := 1) hx hb dL_law__309 (by decide) ?_
  refine lv_iadd hx hb dL_law__310 ?_
  refine gx_sld E hw hX hbl hbA dL_law__311 (fun v1 => ?_)
  refine W_bind fun _ hck => ?_
  refine W_bind fun z2 hz => ?_
  refine w_after (cells1 := c9 + 0) (slots1 := d9 + 0) (w_runV E kV_L_125 kc_X11_end (t_CT_end l hfl G x9 v1 M r ((fun z => (.inl (some (.int z.1)), z.2, r)) z2) (by rw [hz]; rfl)) ⟨Nat.le_of_ble_eq_true rfl, Nat.le_of_ble_eq_true rfl⟩ hw (w_recv E hw (by decide) ⟨_, _, rfl⟩ (ck_ok hck)) rfl hl.1 rfl (Nat.le_of_ble_eq_true rfl) dL_law__312 ⟨by show c9 + 0 + 0 ≤ 601024; omega, by show d9 + 0 + 0 ≤ 7293034; omega⟩) hw rfl (by show c9 + 0 + 0 ≤ c9 + 0; omega) (by show d9 + 0 + 0 ≤ d9 + 0; omega) (fun H locs hw => ?_)
  refine W.eq (g2 := F0 m 315 ls [.int z2.1]) rfl ?_
  have hw : w_W G z2.2 r s H locs := hw
  refine lv_aload_n hx hb dL_law__315 rfl (lv_at hl 3 rfl) ?_
  refine lv_aload_n hx hb dL_law__316 rfl (lv_at hl 1 rfl) ?_
  refine lv_iload hx hb dL_law__317 (lv_at hl 0 rfl) ?_
  refine lv_iconst (v := 1) hx hb dL_law__319 (by decide) ?_
  refine lv_iadd hx hb dL_law__320 ?_
  refine gx_sld E hw hX hbl hbA dL_law__321 (fun v3 => ?_)
  refine W_bind fun z4 hz => ?_
  refine w_after (cells1 := c9 + 0) (slots1 := d9 + 0) (w_runV E kV_L_129 kc_X12_end (t_R_end l hfl G on v3 z2.2 r ((fun z => (.inl (some (.int z.1)), z2.2, z.2)) z4) (by rw [hz]; rfl)) ⟨Nat.le_of_ble_eq_true rfl, Nat.le_of_ble_eq_true rfl⟩ hw (w_recvR E hw on) rfl hl.1 rfl (Nat.le_of_ble_eq_true rfl) dL_law__322 ⟨by show c9 + 0 + 0 ≤ 601024; omega, by show d9 + 0 + 0 ≤ 7293034; omega⟩) hw rfl (by show c9 + 0 + 0 ≤ c9 + 0; omega) (by show d9 + 0 + 0 ≤ d9 + 0; omega) (fun H locs hw => ?_)
  refine W.eq (g2 := F0 m 325 ls [.int z4.1, .int z2.1]) rfl ?_
  have hw : w_W G z2.2 z4.2 s H locs := hw
  refine cx_icmp_eq (tgt := 2675) E dL_law__325 (by decide) (fun _ => ?_) (fun _ => ?_)
  · refine W.widen (k := c9 + 8) (n := d9 + 900) (by omega) (by omega) ?_
    exact hk z2.2 z4.2 _ _ _ hw (lv_sub hl [0, 1, 2, 3, 4] rfl)
  · refine lv_iconst (v := 0) hx hb dL_law__328 (by decide) ?_
    exact W_none
set_option maxHeartbeats 4000000 in
set_option maxRecDepth 100000 in
theorem t_L_c2 {p : Program} {l : Launch} {e : Env} {s : State} {m : MethodId} {args : Array Value} {below : List Frame} {meth : Method} {c : Code} {H : Heap} {locs : List Loc} {ls : Array Slot} {G : wG} {M : Mem} {r : Rho} {xs : Nat → Int32} {L b9 x9 o9 c9 d9 N : Nat} {i9 : Int32} {kk : Mem → Rho → Option (Mem × Rho)} (hfl : l.stackTraces = false) (on : g_on G = true) (E : wE G p l s m args meth c cL_law_ "CheekTownLaw" 7) (hX : va_X b9 L xs s s.heap) (hbl : b9 < s.heap.size) (hbA : ¬ g_A G b9) (hw : w_W G M r s H locs) (hl : lv_has ls 7 [(4, .int i9), (0, .ref b9), (1, .ref x9), (2, .ref (g_r G)), (3, .ref o9)]) (hc : c9 + 8 ≤ 601024) (hd : d9 + 900 ≤ 7293034) (hk : ∀ (M : Mem) (r : Rho) (H : Heap) (locs : List Loc) (ls : Array Slot), w_W G M r s H locs → lv_has ls 7 [(4, .int i9), (0, .ref b9), (1, .ref x9), (2, .ref (g_r G)), (3, .ref o9)] → W p l e room_1 s m args below meth c H locs (c9 + 8) (d9 + 900) (PQ G below args s 601024 7293034 (fun z : Mem × Rho => (.inl (some (.int 1)), z)) (kk M r)) (F0 m 2675 ls [])) : W p l e room_1 s m args below meth c H locs c9 d9 (PQ G below args s 601024 7293034 (fun z : Mem × Rho => (.inl (some (.int 1)), z)) (f_L_c2 N xs L x9 o9 i9 M r kk)) (F0 m 330 ls []) := by
  obtain ⟨hx, hb, hts, hown, hml, hTT, -⟩ := id E
  unfold f_L_c2
  refine lv_aload_n hx hb dL_law__330 rfl (lv_at hl 2 rfl) ?_
  refine lv_aload_n hx hb dL_law__331 rfl (lv_at hl 4 rfl) ?_
  refine W_bind fun z1 hz => ?_
  refine w_after (cells1 := c9 + 2) (slots1 := d9 + 13) (w_runSH E kS_L_130 kcH_L_town (t_L_town l hfl G N x9 o9 M r ((fun z => (.inl (some (.int z.1)), z.2, r)) z1) (by rw [hz]; rfl)) ⟨Nat.le_of_ble_eq_true rfl, Nat.le_of_ble_eq_true rfl⟩ hw rfl hl.1 rfl (Nat.le_of_ble_eq_true rfl) dL_law__332 ⟨by show c9 + 0 + 2 ≤ 601024; omega, by show d9 + 0 + 13 ≤ 7293034; omega⟩) hw rfl (by show c9 + 0 + 2 ≤ c9 + 2; omega) (by show d9 + 0 + 13 ≤ d9 + 13; omega) (fun H locs hw => ?_)
  refine W.eq (g2 := F0 m 335 ls [.int z1.1]) rfl ?_
  have hw : w_W G z1.2 r s H locs := hw
  refine lv_istore (lv' := [(5, .int z1.1), (4, .int i9), (0, .ref b9), (1, .ref x9), (2, .ref (g_r G)), (3, .ref o9)]) hx hb dL_law__335 hl (by decide) rfl (fun ls hl => ?_)
  refine lv_aload_n hx hb dL_law__337 rfl (lv_at hl 4 rfl) ?_
  refine W_bind fun z2 hz => ?_
  refine w_after (cells1 := c9 + 2) (slots1 := d9 + 13) (w_runV E kV_L_135 kc_X12_town (t_R_town l hfl G on N z1.2 r ((fun z => (.inl (some (.int z.1)), z1.2, z.2)) z2) (by rw [hz]; rfl)) ⟨Nat.le_of_ble_eq_true rfl, Nat.le_of_ble_eq_true rfl⟩ hw (w_recvR E hw on) rfl hl.1 rfl (Nat.le_of_ble_eq_true rfl) dL_law__338 ⟨by show c9 + 2 + 0 ≤ 601024; omega, by show d9 + 13 + 0 ≤ 7293034; omega⟩) hw rfl (by show c9 + 2 + 0 ≤ c9 + 2; omega) (by show d9 + 13 + 0 ≤ d9 + 13; omega) (fun H locs hw => ?_)
  refine W.eq (g2 := F0 m 341 ls [.int z2.1]) rfl ?_
  have hw : w_W G z1.2 z2.2 s H locs := hw
  refine lv_istore (lv' := [(6, .int z2.1), (5, .int z1.1), (4, .int i9), (0, .ref b9), (1, .ref x9), (2, .ref (g_r G)), (3, .ref o9)]) hx hb dL_law__341 hl (by decide) rfl (fun ls hl => ?_)
  refine lv_aload_n hx hb dL_law__343 rfl (lv_at hl 5 rfl) ?_
  refine W_bind fun z3 hz => ?_
  refine w_after (cells1 := c9 + 2) (slots1 := d9 + 13) (w_runV E kV_L_136 kc_X12_thrown (t_R_thrown l hfl G on z1.2 z2.2 ((fun z => (.inl (some (.int z)), z1.2, z2.2)) z3) (by rw [hz]; rfl)) ⟨Nat.le_of_ble_eq_true rfl, Nat.le_of_ble_eq_true rfl⟩ hw (w_recvR E hw on) rfl hl.1 rfl (Nat.le_of_ble_eq_true rfl) dL_law__344 ⟨by show c9 + 2 + 0 ≤ 601024; omega, by show d9 + 13 + 0 ≤ 7293034; omega⟩) hw rfl (by show c9 + 2 + 0 ≤ c9 + 2; omega) (by show d9 + 13 + 0 ≤ d9 + 13; omega) (fun H locs hw => ?_)
  refine W.eq (g2 := F0 m 347 ls [.int z3]) rfl ?_
  have hw : w_W G z1.2 z2.2 s H locs := hw
  refine lv_iload hx hb dL_law__347 (lv_at hl 1 rfl) ?_
  refine cx_icmp_eq (tgt := 354) E dL_law__349 (by decide) (fun _ => ?_) (fun _ => ?_)
  · refine lv_iload hx hb dL_law__354 (lv_at hl 1 rfl) ?_
    refine cx_if_ne (tgt := 371) E dL_law__356 (by decide) (fun _ => ?_) (fun _ => ?_)
    · refine lv_goto (tgt := 2675) hx hb dL_law__371 (by decide) ?_
      refine W.widen (k := c9 + 8) (n := d9 + 900) (by omega) (by omega) ?_
      exact hk z1.2 z2.2 _ _ _ hw (lv_sub hl [2, 3, 4, 5, 6] rfl)
    · refine lv_aload_n hx hb dL_law__359 rfl (lv_at hl 6 rfl) ?_
      refine lv_iconst (v := 0) hx hb dL_law__360 (by decide) ?_
      refine gx_lald E hw dL_law__361 (fun v4 _ => ?_)
      refine lv_iload hx hb dL_law__362 (lv_at hl 0 rfl) ?_
      refine lv_i2l (v := Int32.toInt64 z2.1) hx hb dL_law__364 rfl ?_
      refine W.lcmp hx hb dL_law__365 ?_
      refine cx_if_eq (tgt := 371) E dL_law__366 (by decide) (fun _ => ?_) (fun _ => ?_)
      · refine lv_goto (tgt := 2675) hx hb dL_law__371 (by decide) ?_
        refine W.widen (k := c9 + 8) (n := d9 + 900) (by omega) (by omega) ?_
        exact hk z1.2 z2.2 _ _ _ hw (lv_sub hl [2, 3, 4, 5, 6] rfl)
      · refine lv_iconst (v := 0) hx hb dL_law__369 (by decide) ?_
        exact W_none
  · refine lv_iconst (v := 0) hx hb dL_law__352 (by decide) ?_
    exact W_none
set_option maxHeartbeats 4000000 in
set_option maxRecDepth 100000 in
theorem t_L_c3 {p : Program} {l : Launch} {e : Env} {s : State} {m : MethodId} {args : Array Value} {below : List Frame} {meth : Method} {c : Code} {H : Heap} {locs : List Loc} {ls : Array Slot} {G : wG} {M : Mem} {r : Rho} {xs : Nat → Int32} {L b9 x9 o9 c9 d9 N : Nat} {i9 : Int32} {kk : Mem → Rho → Option (Mem × Rho)} (hfl : l.stackTraces = false) (on : g_on G = true) (E : wE G p l s m args meth c cL_law_ "CheekTownLaw" 7) (hX : va_X b9 L xs s s.heap) (hbl : b9 < s.heap.size) (hbA : ¬ g_A G b9) (hw : w_W G M r s H locs) (hl : lv_has ls 7 [(4, .int i9), (0, .ref b9), (1, .ref x9), (2, .ref (g_r G)), (3, .ref o9)]) (hc : c9 + 8 ≤ 601024) (hd : d9 + 900 ≤ 7293034) (hk : ∀ (M : Mem) (r : Rho) (H : Heap) (locs : List Loc) (ls : Array Slot), w_W G M r s H locs → lv_has ls 7 [(4, .int i9), (0, .ref b9), (1, .ref x9), (2, .ref (g_r G)), (3, .ref o9)] → W p l e room_1 s m args below meth c H locs (c9 + 8) (d9 + 900) (PQ G below args s 601024 7293034 (fun z : Mem × Rho => (.inl (some (.int 1)), z)) (kk M r)) (F0 m 2675 ls [])) : W p l e room_1 s m args below meth c H locs c9 d9 (PQ G below args s 601024 7293034 (fun z : Mem × Rho => (.inl (some (.int 1)), z)) (f_L_c3 N xs L x9 o9 i9 M r kk)) (F0 m 374 ls []) := by
  obtain ⟨hx, hb, hts, hown, hml, hTT, -⟩ := id E
  unfold f_L_c3
  refine lv_aload_n hx hb dL_law__374 rfl (lv_at hl 2 rfl) ?_
  refine lv_aload_n hx hb dL_law__375 rfl (lv_at hl 4 rfl) ?_
  refine W_bind fun z1 hz => ?_
  refine w_after (cells1 := c9 + 8) (slots1 := d9 + 876) (w_runSH E kS_L_139 kcH_L_law (t_L_law l hfl G N x9 o9 M r ((fun z => (.inl (some (.int z.1)), z.2, r)) z1) (by rw [hz]; rfl)) ⟨Nat.le_of_ble_eq_true rfl, Nat.le_of_ble_eq_true rfl⟩ hw rfl hl.1 rfl (Nat.le_of_ble_eq_true rfl) dL_law__376 ⟨by show c9 + 0 + 8 ≤ 601024; omega, by show d9 + 0 + 876 ≤ 7293034; omega⟩) hw rfl (by show c9 + 0 + 8 ≤ c9 + 8; omega) (by show d9 + 0 + 876 ≤ d9 + 876; omega) (fun H locs hw => ?_)
  refine W.eq (g2 := F0 m 379 ls [.int z1.1]) rfl ?_
  have hw : w_W G z1.2 r s H locs := hw
  refine lv_istore (lv' := [(5, .int z1.1), (4, .int i9), (0, .ref b9), (1, .ref x9), (2, .ref (g_r G)), (3, .ref o9)]) hx hb dL_law__379 hl (by decide) rfl (fun ls hl => ?_)
  refine lv_aload_n hx hb dL_law__381 rfl (lv_at hl 4 rfl) ?_
  refine W_bind fun z2 hz => ?_
  refine w_after (cells1 := c9 + 8) (slots1 := d9 + 876) (w_runV E kV_L_141 kc_X12_law (t_R_law l hfl G on N z1.2 r ((fun z => (.inl (some (.int z.1)), z1.2, z.2)) z2) (by rw [hz]; rfl)) ⟨Nat.le_of_ble_eq_true rfl, Nat.le_of_ble_eq_true rfl⟩ hw (w_recvR E hw on) rfl hl.1 rfl (Nat.le_of_ble_eq_true rfl) dL_law__382 ⟨by show c9 + 8 + 0 ≤ 601024; omega, by show d9 + 876 + 0 ≤ 7293034; omega⟩) hw rfl (by show c9 + 8 + 0 ≤ c9 + 8; omega) (by show d9 + 876 + 0 ≤ d9 + 876; omega) (fun H locs hw => ?_)
  refine W.eq (g2 := F0 m 385 ls [.int z2.1]) rfl ?_
  have hw : w_W G z1.2 z2.2 s H locs := hw
  refine lv_istore (lv' := [(6, .int z2.1), (5, .int z1.1), (4, .int i9), (0, .ref b9), (1, .ref x9), (2, .ref (g_r G)), (3, .ref o9)]) hx hb dL_law__385 hl (by decide) rfl (fun ls hl => ?_)
  refine lv_aload_n hx hb dL_law__387 rfl (lv_at hl 5 rfl) ?_
  refine W_bind fun z3 hz => ?_
  refine w_after (cells1 := c9 + 8) (slots1 := d9 + 876) (w_runV E kV_L_136 kc_X12_thrown (t_R_thrown l hfl G on z1.2 z2.2 ((fun z => (.inl (some (.int z)), z1.2, z2.2)) z3) (by rw [hz]; rfl)) ⟨Nat.le_of_ble_eq_true rfl, Nat.le_of_ble_eq_true rfl⟩ hw (w_recvR E hw on) rfl hl.1 rfl (Nat.le_of_ble_eq_true rfl) dL_law__388 ⟨by show c9 + 8 + 0 ≤ 601024; omega, by show d9 + 876 + 0 ≤ 7293034; omega⟩) hw rfl (by show c9 + 8 + 0 ≤ c9 + 8; omega) (by show d9 + 876 + 0 ≤ d9 + 876; omega) (fun H locs hw => ?_)
  refine W.eq (g2 := F0 m 391 ls [.int z3]) rfl ?_
  have hw : w_W G z1.2 z2.2 s H locs := hw
  refine lv_iload hx hb dL_law__391 (lv_at hl 1 rfl) ?_
  refine cx_icmp_eq (tgt := 398) E dL_law__393 (by decide) (fun _ => ?_) (fun _ => ?_)
  · refine lv_iload hx hb dL_law__398 (lv_at hl 1 rfl) ?_
    refine cx_if_ne (tgt := 415) E dL_law__400 (by decide) (fun _ => ?_) (fun _ => ?_)
    · refine lv_goto (tgt := 2675) hx hb dL_law__415 (by decide) ?_
      refine W.widen (k := c9 + 8) (n := d9 + 900) (by omega) (by omega) ?_
      exact hk z1.2 z2.2 _ _ _ hw (lv_sub hl [2, 3, 4, 5, 6] rfl)
    · refine lv_aload_n hx hb dL_law__403 rfl (lv_at hl 6 rfl) ?_
      refine lv_iconst (v := 0) hx hb dL_law__404 (by decide) ?_
      refine gx_lald E hw dL_law__405 (fun v4 _ => ?_)
      refine lv_iload hx hb dL_law__406 (lv_at hl 0 rfl) ?_
      refine lv_i2l (v := Int32.toInt64 z2.1) hx hb dL_law__408 rfl ?_
      refine W.lcmp hx hb dL_law__409 ?_
      refine cx_if_eq (tgt := 415) E dL_law__410 (by decide) (fun _ => ?_) (fun _ => ?_)
      · refine lv_goto (tgt := 2675) hx hb dL_law__415 (by decide) ?_
        refine W.widen (k := c9 + 8) (n := d9 + 900) (by omega) (by omega) ?_
        exact hk z1.2 z2.2 _ _ _ hw (lv_sub hl [2, 3, 4, 5, 6] rfl)
      · refine lv_iconst (v := 0) hx hb dL_law__413 (by decide) ?_
        exact W_none
  · refine lv_iconst (v := 0) hx hb dL_law__396 (by decide) ?_
    exact W_none
set_option maxHeartbeats 4000000 in
set_option maxRecDepth 100000 in
theorem t_L_c4 {p : Program} {l : Launch} {e : Env} {s : State} {m : MethodId} {args : Array Value} {below : List Frame} {meth : Method} {c : Code} {H : Heap} {locs : List Loc} {ls : Array Slot} {G : wG} {M : Mem} {r : Rho} {xs : Nat → Int32} {L b9 x9 o9 c9 d9 N : Nat} {i9 : Int32} {kk : Mem → Rho → Option (Mem × Rho)} (hfl : l.stackTraces = false) (on : g_on G = true) (E : wE G p l s m args meth c cL_law_ "CheekTownLaw" 7) (hX : va_X b9 L xs s s.heap) (hbl : b9 < s.heap.size) (hbA : ¬ g_A G b9) (hw : w_W G M r s H locs) (hl : lv_has ls 7 [(4, .int i9), (0, .ref b9), (1, .ref x9), (2, .ref (g_r G)), (3, .ref o9)]) (hc : c9 + 8 ≤ 601024) (hd : d9 + 900 ≤ 7293034) (hk : ∀ (M : Mem) (r : Rho) (H : Heap) (locs : List Loc) (ls : Array Slot), w_W G M r s H locs → lv_has ls 7 [(4, .int i9), (0, .ref b9), (1, .ref x9), (2, .ref (g_r G)), (3, .ref o9)] → W p l e room_1 s m args below meth c H locs (c9 + 8) (d9 + 900) (PQ G below args s 601024 7293034 (fun z : Mem × Rho => (.inl (some (.int 1)), z)) (kk M r)) (F0 m 2675 ls [])) : W p l e room_1 s m args below meth c H locs c9 d9 (PQ G below args s 601024 7293034 (fun z : Mem × Rho => (.inl (some (.int 1)), z)) (f_L_c4 N xs L x9 o9 i9 M r kk)) (F0 m 418 ls []) := by
  obtain ⟨hx, hb, hts, hown, hml, hTT, -⟩ := id E
  unfold f_L_c4
  refine lv_aload_n hx hb dL_law__418 rfl (lv_at hl 2 rfl) ?_
  refine W_bind fun _ hck => ?_
  refine W_bind fun z1 hz => ?_
  refine w_after (cells1 := c9 + 0) (slots1 := d9 + 0) (w_runV E kV_L_142 kc_X11_fault (t_CT_fault l hfl G x9 M r ((fun z => (.inl (some (.int z)), M, r)) z1) (by rw [hz]; rfl)) ⟨Nat.le_of_ble_eq_true rfl, Nat.le_of_ble_eq_true rfl⟩ hw (w_recv E hw (by decide) ⟨_, _, rfl⟩ (ck_ok hck)) rfl hl.1 rfl (Nat.le_of_ble_eq_true rfl) dL_law__419 ⟨by show c9 + 0 + 0 ≤ 601024; omega, by show d9 + 0 + 0 ≤ 7293034; omega⟩) hw rfl (by show c9 + 0 + 0 ≤ c9 + 0; omega) (by show d9 + 0 + 0 ≤ d9 + 0; omega) (fun H locs hw => ?_)
  refine W.eq (g2 := F0 m 422 ls [.int z1]) rfl ?_
  have hw : w_W G M r s H locs := hw
  refine lv_aload_n hx hb dL_law__422 rfl (lv_at hl 3 rfl) ?_
  refine W_bind fun z2 hz => ?_
  refine w_after (cells1 := c9 + 0) (slots1 := d9 + 0) (w_runV E kV_L_145 kc_X12_fault (t_R_fault l hfl G on M r ((fun z => (.inl (some (.int z.1)), M, z.2)) z2) (by rw [hz]; rfl)) ⟨Nat.le_of_ble_eq_true rfl, Nat.le_of_ble_eq_true rfl⟩ hw (w_recvR E hw on) rfl hl.1 rfl (Nat.le_of_ble_eq_true rfl) dL_law__423 ⟨by show c9 + 0 + 0 ≤ 601024; omega, by show d9 + 0 + 0 ≤ 7293034; omega⟩) hw rfl (by show c9 + 0 + 0 ≤ c9 + 0; omega) (by show d9 + 0 + 0 ≤ d9 + 0; omega) (fun H locs hw => ?_)
  refine W.eq (g2 := F0 m 426 ls [.int z2.1, .int z1]) rfl ?_
  have hw : w_W G M z2.2 s H locs := hw
  refine cx_icmp_eq (tgt := 2675) E dL_law__426 (by decide) (fun _ => ?_) (fun _ => ?_)
  · refine W.widen (k := c9 + 8) (n := d9 + 900) (by omega) (by omega) ?_
    exact hk M z2.2 _ _ _ hw (lv_sub hl [0, 1, 2, 3, 4] rfl)
  · refine lv_iconst (v := 0) hx hb dL_law__429 (by decide) ?_
    exact W_none
set_option maxHeartbeats 4000000 in
set_option maxRecDepth 100000 in
theorem t_L_c5 {p : Program} {l : Launch} {e : Env} {s : State} {m : MethodId} {args : Array Value} {below : List Frame} {meth : Method} {c : Code} {H : Heap} {locs : List Loc} {ls : Array Slot} {G : wG} {M : Mem} {r : Rho} {xs : Nat → Int32} {L b9 x9 o9 c9 d9 N : Nat} {i9 : Int32} {kk : Mem → Rho → Option (Mem × Rho)} (hfl : l.stackTraces = false) (on : g_on G = true) (E : wE G p l s m args meth c cL_law_ "CheekTownLaw" 7) (hX : va_X b9 L xs s s.heap) (hbl : b9 < s.heap.size) (hbA : ¬ g_A G b9) (hw : w_W G M r s H locs) (hl : lv_has ls 7 [(4, .int i9), (0, .ref b9), (1, .ref x9), (2, .ref (g_r G)), (3, .ref o9)]) (hc : c9 + 8 ≤ 601024) (hd : d9 + 900 ≤ 7293034) (hk : ∀ (M : Mem) (r : Rho) (H : Heap) (locs : List Loc) (ls : Array Slot), w_W G M r s H locs → lv_has ls 7 [(4, .int i9), (0, .ref b9), (1, .ref x9), (2, .ref (g_r G)), (3, .ref o9)] → W p l e room_1 s m args below meth c H locs (c9 + 8) (d9 + 900) (PQ G below args s 601024 7293034 (fun z : Mem × Rho => (.inl (some (.int 1)), z)) (kk M r)) (F0 m 2675 ls [])) : W p l e room_1 s m args below meth c H locs c9 d9 (PQ G below args s 601024 7293034 (fun z : Mem × Rho => (.inl (some (.int 1)), z)) (f_L_c5 N xs L x9 o9 i9 M r kk)) (F0 m 431 ls []) := by
  obtain ⟨hx, hb, hts, hown, hml, hTT, -⟩ := id E
  unfold f_L_c5
  refine lv_aload_n hx hb dL_law__431 rfl (lv_at hl 2 rfl) ?_
  refine lv_aload_n hx hb dL_law__432 rfl (lv_at hl 1 rfl) ?_
  refine lv_iload hx hb dL_law__433 (lv_at hl 0 rfl) ?_
  refine lv_iconst (v := 1) hx hb dL_law__435 (by decide) ?_
  refine lv_iadd hx hb dL_law__436 ?_
  refine gx_sld E hw hX hbl hbA dL_law__437 (fun v1 => ?_)
  refine lv_aload_n hx hb dL_law__438 rfl (lv_at hl 1 rfl) ?_
  refine lv_iload hx hb dL_law__439 (lv_at hl 0 rfl) ?_
  refine lv_iconst (v := 2) hx hb dL_law__441 (by decide) ?_
  refine lv_iadd hx hb dL_law__442 ?_
  refine gx_sld E hw hX hbl hbA dL_law__443 (fun v2 => ?_)
  refine lv_aload_n hx hb dL_law__444 rfl (lv_at hl 4 rfl) ?_
  refine W_bind fun z3 hz => ?_
  refine w_after (cells1 := c9 + 2) (slots1 := d9 + 12) (w_runSH E kS_L_146 kcH_L_cost (t_L_cost l hfl G x9 v1 v2 o9 M r ((fun z => (.inl (some (.int z.1)), z.2, r)) z3) (by rw [hz]; rfl)) ⟨Nat.le_of_ble_eq_true rfl, Nat.le_of_ble_eq_true rfl⟩ hw rfl hl.1 rfl (Nat.le_of_ble_eq_true rfl) dL_law__445 ⟨by show c9 + 0 + 2 ≤ 601024; omega, by show d9 + 0 + 12 ≤ 7293034; omega⟩) hw rfl (by show c9 + 0 + 2 ≤ c9 + 2; omega) (by show d9 + 0 + 12 ≤ d9 + 12; omega) (fun H locs hw => ?_)
  refine W.eq (g2 := F0 m 448 ls [.int z3.1]) rfl ?_
  have hw : w_W G z3.2 r s H locs := hw
  refine lv_istore (lv' := [(5, .int z3.1), (4, .int i9), (0, .ref b9), (1, .ref x9), (2, .ref (g_r G)), (3, .ref o9)]) hx hb dL_law__448 hl (by decide) rfl (fun ls hl => ?_)
  refine lv_aload_n hx hb dL_law__450 rfl (lv_at hl 4 rfl) ?_
  refine lv_aload_n hx hb dL_law__451 rfl (lv_at hl 2 rfl) ?_
  refine lv_iload hx hb dL_law__452 (lv_at hl 1 rfl) ?_
  refine lv_iconst (v := 1) hx hb dL_law__454 (by decide) ?_
  refine lv_iadd hx hb dL_law__455 ?_
  refine gx_sld E hw hX hbl hbA dL_law__456 (fun v4 => ?_)
  refine lv_aload_n hx hb dL_law__457 rfl (lv_at hl 2 rfl) ?_
  refine lv_iload hx hb dL_law__458 (lv_at hl 1 rfl) ?_
  refine lv_iconst (v := 2) hx hb dL_law__460 (by decide) ?_
  refine lv_iadd hx hb dL_law__461 ?_
  refine gx_sld E hw hX hbl hbA dL_law__462 (fun v5 => ?_)
  refine W_bind fun z6 hz => ?_
  refine w_after (cells1 := c9 + 2) (slots1 := d9 + 12) (w_runV E kV_L_149 kc_X12_cost (t_R_cost l hfl G on v4 v5 z3.2 r ((fun z => (.inl (some (.int z.1)), z3.2, z.2)) z6) (by rw [hz]; rfl)) ⟨Nat.le_of_ble_eq_true rfl, Nat.le_of_ble_eq_true rfl⟩ hw (w_recvR E hw on) rfl hl.1 rfl (Nat.le_of_ble_eq_true rfl) dL_law__463 ⟨by show c9 + 2 + 0 ≤ 601024; omega, by show d9 + 12 + 0 ≤ 7293034; omega⟩) hw rfl (by show c9 + 2 + 0 ≤ c9 + 2; omega) (by show d9 + 12 + 0 ≤ d9 + 12; omega) (fun H locs hw => ?_)
  refine W.eq (g2 := F0 m 466 ls [.int z6.1]) rfl ?_
  have hw : w_W G z3.2 z6.2 s H locs := hw
  refine lv_istore (lv' := [(6, .int z6.1), (5, .int z3.1), (4, .int i9), (0, .ref b9), (1, .ref x9), (2, .ref (g_r G)), (3, .ref o9)]) hx hb dL_law__466 hl (by decide) rfl (fun ls hl => ?_)
  refine lv_aload_n hx hb dL_law__468 rfl (lv_at hl 5 rfl) ?_
  refine W_bind fun z7 hz => ?_
  refine w_after (cells1 := c9 + 2) (slots1 := d9 + 12) (w_runV E kV_L_136 kc_X12_thrown (t_R_thrown l hfl G on z3.2 z6.2 ((fun z => (.inl (some (.int z)), z3.2, z6.2)) z7) (by rw [hz]; rfl)) ⟨Nat.le_of_ble_eq_true rfl, Nat.le_of_ble_eq_true rfl⟩ hw (w_recvR E hw on) rfl hl.1 rfl (Nat.le_of_ble_eq_true rfl) dL_law__469 ⟨by show c9 + 2 + 0 ≤ 601024; omega, by show d9 + 12 + 0 ≤ 7293034; omega⟩) hw rfl (by show c9 + 2 + 0 ≤ c9 + 2; omega) (by show d9 + 12 + 0 ≤ d9 + 12; omega) (fun H locs hw => ?_)
  refine W.eq (g2 := F0 m 472 ls [.int z7]) rfl ?_
  have hw : w_W G z3.2 z6.2 s H locs := hw
  refine lv_iload hx hb dL_law__472 (lv_at hl 1 rfl) ?_
  refine cx_icmp_eq (tgt := 479) E dL_law__474 (by decide) (fun _ => ?_) (fun _ => ?_)
  · refine lv_iload hx hb dL_law__479 (lv_at hl 1 rfl) ?_
    refine cx_if_ne (tgt := 496) E dL_law__481 (by decide) (fun _ => ?_) (fun _ => ?_)
    · refine lv_goto (tgt := 2675) hx hb dL_law__496 (by decide) ?_
      refine W.widen (k := c9 + 8) (n := d9 + 900) (by omega) (by omega) ?_
      exact hk z3.2 z6.2 _ _ _ hw (lv_sub hl [2, 3, 4, 5, 6] rfl)
    · refine lv_aload_n hx hb dL_law__484 rfl (lv_at hl 6 rfl) ?_
      refine lv_iconst (v := 0) hx hb dL_law__485 (by decide) ?_
      refine gx_lald E hw dL_law__486 (fun v8 _ => ?_)
      refine lv_iload hx hb dL_law__487 (lv_at hl 0 rfl) ?_
      refine lv_i2l (v := Int32.toInt64 z6.1) hx hb dL_law__489 rfl ?_
      refine W.lcmp hx hb dL_law__490 ?_
      refine cx_if_eq (tgt := 496) E dL_law__491 (by decide) (fun _ => ?_) (fun _ => ?_)
      · refine lv_goto (tgt := 2675) hx hb dL_law__496 (by decide) ?_
        refine W.widen (k := c9 + 8) (n := d9 + 900) (by omega) (by omega) ?_
        exact hk z3.2 z6.2 _ _ _ hw (lv_sub hl [2, 3, 4, 5, 6] rfl)
      · refine lv_iconst (v := 0) hx hb dL_law__494 (by decide) ?_
        exact W_none
  · refine lv_iconst (v := 0) hx hb dL_law__477 (by decide) ?_
    exact W_none
set_option maxHeartbeats 4000000 in
set_option maxRecDepth 100000 in
theorem t_L_c6 {p : Program} {l : Launch} {e : Env} {s : State} {m : MethodId} {args : Array Value} {below : List Frame} {meth : Method} {c : Code} {H : Heap} {locs : List Loc} {ls : Array Slot} {G : wG} {M : Mem} {r : Rho} {xs : Nat → Int32} {L b9 x9 o9 c9 d9 N : Nat} {i9 : Int32} {kk : Mem → Rho → Option (Mem × Rho)} (hfl : l.stackTraces = false) (on : g_on G = true) (E : wE G p l s m args meth c cL_law_ "CheekTownLaw" 7) (hX : va_X b9 L xs s s.heap) (hbl : b9 < s.heap.size) (hbA : ¬ g_A G b9) (hw : w_W G M r s H locs) (hl : lv_has ls 7 [(4, .int i9), (0, .ref b9), (1, .ref x9), (2, .ref (g_r G)), (3, .ref o9)]) (hc : c9 + 8 ≤ 601024) (hd : d9 + 900 ≤ 7293034) (hk : ∀ (M : Mem) (r : Rho) (H : Heap) (locs : List Loc) (ls : Array Slot), w_W G M r s H locs → lv_has ls 7 [(4, .int i9), (0, .ref b9), (1, .ref x9), (2, .ref (g_r G)), (3, .ref o9)] → W p l e room_1 s m args below meth c H locs (c9 + 8) (d9 + 900) (PQ G below args s 601024 7293034 (fun z : Mem × Rho => (.inl (some (.int 1)), z)) (kk M r)) (F0 m 2675 ls [])) : W p l e room_1 s m args below meth c H locs c9 d9 (PQ G below args s 601024 7293034 (fun z : Mem × Rho => (.inl (some (.int 1)), z)) (f_L_c6 N xs L x9 o9 i9 M r kk)) (F0 m 499 ls []) := by
  obtain ⟨hx, hb, hts, hown, hml, hTT, -⟩ := id E
  unfold f_L_c6
  refine lv_aload_n hx hb dL_law__499 rfl (lv_at hl 2 rfl) ?_
  refine lv_aload_n hx hb dL_law__500 rfl (lv_at hl 1 rfl) ?_
  refine lv_iload hx hb dL_law__501 (lv_at hl 0 rfl) ?_
  refine lv_iconst (v := 1) hx hb dL_law__503 (by decide) ?_
  refine lv_iadd hx hb dL_law__504 ?_
  refine gx_sld E hw hX hbl hbA dL_law__505 (fun v1 => ?_)
  refine lv_aload_n hx hb dL_law__506 rfl (lv_at hl 1 rfl) ?_
  refine lv_iload hx hb dL_law__507 (lv_at hl 0 rfl) ?_
  refine lv_iconst (v := 2) hx hb dL_law__509 (by decide) ?_
  refine lv_iadd hx hb dL_law__510 ?_
  refine gx_sld E hw hX hbl hbA dL_law__511 (fun v2 => ?_)
  refine lv_aload_n hx hb dL_law__512 rfl (lv_at hl 4 rfl) ?_
  refine W_bind fun z3 hz => ?_
  refine w_after (cells1 := c9 + 2) (slots1 := d9 + 12) (w_runSH E kS_L_150 kcH_L_habit (t_L_habit l hfl G N x9 v1 v2 o9 M r ((fun z => (.inl (some (.int z.1)), z.2, r)) z3) (by rw [hz]; rfl)) ⟨Nat.le_of_ble_eq_true rfl, Nat.le_of_ble_eq_true rfl⟩ hw rfl hl.1 rfl (Nat.le_of_ble_eq_true rfl) dL_law__513 ⟨by show c9 + 0 + 2 ≤ 601024; omega, by show d9 + 0 + 12 ≤ 7293034; omega⟩) hw rfl (by show c9 + 0 + 2 ≤ c9 + 2; omega) (by show d9 + 0 + 12 ≤ d9 + 12; omega) (fun H locs hw => ?_)
  refine W.eq (g2 := F0 m 516 ls [.int z3.1]) rfl ?_
  have hw : w_W G z3.2 r s H locs := hw
  refine lv_istore (lv' := [(5, .int z3.1), (4, .int i9), (0, .ref b9), (1, .ref x9), (2, .ref (g_r G)), (3, .ref o9)]) hx hb dL_law__516 hl (by decide) rfl (fun ls hl => ?_)
  refine lv_aload_n hx hb dL_law__518 rfl (lv_at hl 4 rfl) ?_
  refine lv_aload_n hx hb dL_law__519 rfl (lv_at hl 2 rfl) ?_
  refine lv_iload hx hb dL_law__520 (lv_at hl 1 rfl) ?_
  refine lv_iconst (v := 1) hx hb dL_law__522 (by decide) ?_
  refine lv_iadd hx hb dL_law__523 ?_
  refine gx_sld E hw hX hbl hbA dL_law__524 (fun v4 => ?_)
  refine lv_aload_n hx hb dL_law__525 rfl (lv_at hl 2 rfl) ?_
  refine lv_iload hx hb dL_law__526 (lv_at hl 1 rfl) ?_
  refine lv_iconst (v := 2) hx hb dL_law__528 (by decide) ?_
  refine lv_iadd hx hb dL_law__529 ?_
  refine gx_sld E hw hX hbl hbA dL_law__530 (fun v5 => ?_)
  refine W_bind fun z6 hz => ?_
  refine w_after (cells1 := c9 + 2) (slots1 := d9 + 12) (w_runV E kV_L_152 kc_X12_habit (t_R_habit l hfl G on N v4 v5 z3.2 r ((fun z => (.inl (some (.int z.1)), z3.2, z.2)) z6) (by rw [hz]; rfl)) ⟨Nat.le_of_ble_eq_true rfl, Nat.le_of_ble_eq_true rfl⟩ hw (w_recvR E hw on) rfl hl.1 rfl (Nat.le_of_ble_eq_true rfl) dL_law__531 ⟨by show c9 + 2 + 0 ≤ 601024; omega, by show d9 + 12 + 0 ≤ 7293034; omega⟩) hw rfl (by show c9 + 2 + 0 ≤ c9 + 2; omega) (by show d9 + 12 + 0 ≤ d9 + 12; omega) (fun H locs hw => ?_)
  refine W.eq (g2 := F0 m 534 ls [.int z6.1]) rfl ?_
  have hw : w_W G z3.2 z6.2 s H locs := hw
  refine lv_istore (lv' := [(6, .int z6.1), (5, .int z3.1), (4, .int i9), (0, .ref b9), (1, .ref x9), (2, .ref (g_r G)), (3, .ref o9)]) hx hb dL_law__534 hl (by decide) rfl (fun ls hl => ?_)
  refine lv_aload_n hx hb dL_law__536 rfl (lv_at hl 5 rfl) ?_
  refine W_bind fun z7 hz => ?_
  refine w_after (cells1 := c9 + 2) (slots1 := d9 + 12) (w_runV E kV_L_136 kc_X12_thrown (t_R_thrown l hfl G on z3.2 z6.2 ((fun z => (.inl (some (.int z)), z3.2, z6.2)) z7) (by rw [hz]; rfl)) ⟨Nat.le_of_ble_eq_true rfl, Nat.le_of_ble_eq_true rfl⟩ hw (w_recvR E hw on) rfl hl.1 rfl (Nat.le_of_ble_eq_true rfl) dL_law__537 ⟨by show c9 + 2 + 0 ≤ 601024; omega, by show d9 + 12 + 0 ≤ 7293034; omega⟩) hw rfl (by show c9 + 2 + 0 ≤ c9 + 2; omega) (by show d9 + 12 + 0 ≤ d9 + 12; omega) (fun H locs hw => ?_)
  refine W.eq (g2 := F0 m 540 ls [.int z7]) rfl ?_
  have hw : w_W G z3.2 z6.2 s H locs := hw
  refine lv_iload hx hb dL_law__540 (lv_at hl 1 rfl) ?_
  refine cx_icmp_eq (tgt := 547) E dL_law__542 (by decide) (fun _ => ?_) (fun _ => ?_)
  · refine lv_iload hx hb dL_law__547 (lv_at hl 1 rfl) ?_
    refine cx_if_ne (tgt := 564) E dL_law__549 (by decide) (fun _ => ?_) (fun _ => ?_)
    · refine lv_goto (tgt := 2675) hx hb dL_law__564 (by decide) ?_
      refine W.widen (k := c9 + 8) (n := d9 + 900) (by omega) (by omega) ?_
      exact hk z3.2 z6.2 _ _ _ hw (lv_sub hl [2, 3, 4, 5, 6] rfl)
    · refine lv_aload_n hx hb dL_law__552 rfl (lv_at hl 6 rfl) ?_
      refine lv_iconst (v := 0) hx hb dL_law__553 (by decide) ?_
      refine gx_lald E hw dL_law__554 (fun v8 _ => ?_)
      refine lv_iload hx hb dL_law__555 (lv_at hl 0 rfl) ?_
      refine lv_i2l (v := Int32.toInt64 z6.1) hx hb dL_law__557 rfl ?_
      refine W.lcmp hx hb dL_law__558 ?_
      refine cx_if_eq (tgt := 564) E dL_law__559 (by decide) (fun _ => ?_) (fun _ => ?_)
      · refine lv_goto (tgt := 2675) hx hb dL_law__564 (by decide) ?_
        refine W.widen (k := c9 + 8) (n := d9 + 900) (by omega) (by omega) ?_
        exact hk z3.2 z6.2 _ _ _ hw (lv_sub hl [2, 3, 4, 5, 6] rfl)
      · refine lv_iconst (v := 0) hx hb dL_law__562 (by decide) ?_
        exact W_none
  · refine lv_iconst (v := 0) hx hb dL_law__545 (by decide) ?_
    exact W_none
set_option maxHeartbeats 4000000 in
set_option maxRecDepth 100000 in
theorem t_L_c7 {p : Program} {l : Launch} {e : Env} {s : State} {m : MethodId} {args : Array Value} {below : List Frame} {meth : Method} {c : Code} {H : Heap} {locs : List Loc} {ls : Array Slot} {G : wG} {M : Mem} {r : Rho} {xs : Nat → Int32} {L b9 x9 o9 c9 d9 N : Nat} {i9 : Int32} {kk : Mem → Rho → Option (Mem × Rho)} (hfl : l.stackTraces = false) (on : g_on G = true) (E : wE G p l s m args meth c cL_law_ "CheekTownLaw" 7) (hX : va_X b9 L xs s s.heap) (hbl : b9 < s.heap.size) (hbA : ¬ g_A G b9) (hw : w_W G M r s H locs) (hl : lv_has ls 7 [(4, .int i9), (0, .ref b9), (1, .ref x9), (2, .ref (g_r G)), (3, .ref o9)]) (hc : c9 + 8 ≤ 601024) (hd : d9 + 900 ≤ 7293034) (hk : ∀ (M : Mem) (r : Rho) (H : Heap) (locs : List Loc) (ls : Array Slot), w_W G M r s H locs → lv_has ls 7 [(4, .int i9), (0, .ref b9), (1, .ref x9), (2, .ref (g_r G)), (3, .ref o9)] → W p l e room_1 s m args below meth c H locs (c9 + 8) (d9 + 900) (PQ G below args s 601024 7293034 (fun z : Mem × Rho => (.inl (some (.int 1)), z)) (kk M r)) (F0 m 2675 ls [])) : W p l e room_1 s m args below meth c H locs c9 d9 (PQ G below args s 601024 7293034 (fun z : Mem × Rho => (.inl (some (.int 1)), z)) (f_L_c7 N xs L x9 o9 i9 M r kk)) (F0 m 567 ls []) := by
  obtain ⟨hx, hb, hts, hown, hml, hTT, -⟩ := id E
  unfold f_L_c7
  refine lv_aload_n hx hb dL_law__567 rfl (lv_at hl 2 rfl) ?_
  refine lv_aload_n hx hb dL_law__568 rfl (lv_at hl 1 rfl) ?_
  refine lv_iload hx hb dL_law__569 (lv_at hl 0 rfl) ?_
  refine lv_iconst (v := 1) hx hb dL_law__571 (by decide) ?_
  refine lv_iadd hx hb dL_law__572 ?_
  refine gx_sld E hw hX hbl hbA dL_law__573 (fun v1 => ?_)
  refine lv_aload_n hx hb dL_law__574 rfl (lv_at hl 1 rfl) ?_
  refine lv_iload hx hb dL_law__575 (lv_at hl 0 rfl) ?_
  refine lv_iconst (v := 2) hx hb dL_law__577 (by decide) ?_
  refine lv_iadd hx hb dL_law__578 ?_
  refine gx_sld E hw hX hbl hbA dL_law__579 (fun v2 => ?_)
  refine lv_aload_n hx hb dL_law__580 rfl (lv_at hl 4 rfl) ?_
  refine W_bind fun z3 hz => ?_
  refine w_after (cells1 := c9 + 2) (slots1 := d9 + 12) (w_runSH E kS_L_153 kcH_L_person (t_L_person l hfl G N x9 v1 v2 o9 M r ((fun z => (.inl (some (.int z.1)), z.2, r)) z3) (by rw [hz]; rfl)) ⟨Nat.le_of_ble_eq_true rfl, Nat.le_of_ble_eq_true rfl⟩ hw rfl hl.1 rfl (Nat.le_of_ble_eq_true rfl) dL_law__581 ⟨by show c9 + 0 + 2 ≤ 601024; omega, by show d9 + 0 + 12 ≤ 7293034; omega⟩) hw rfl (by show c9 + 0 + 2 ≤ c9 + 2; omega) (by show d9 + 0 + 12 ≤ d9 + 12; omega) (fun H locs hw => ?_)
  refine W.eq (g2 := F0 m 584 ls [.int z3.1]) rfl ?_
  have hw : w_W G z3.2 r s H locs := hw
  refine lv_istore (lv' := [(5, .int z3.1), (4, .int i9), (0, .ref b9), (1, .ref x9), (2, .ref (g_r G)), (3, .ref o9)]) hx hb dL_law__584 hl (by decide) rfl (fun ls hl => ?_)
  refine lv_aload_n hx hb dL_law__586 rfl (lv_at hl 4 rfl) ?_
  refine lv_aload_n hx hb dL_law__587 rfl (lv_at hl 2 rfl) ?_
  refine lv_iload hx hb dL_law__588 (lv_at hl 1 rfl) ?_
  refine lv_iconst (v := 1) hx hb dL_law__590 (by decide) ?_
  refine lv_iadd hx hb dL_law__591 ?_
  refine gx_sld E hw hX hbl hbA dL_law__592 (fun v4 => ?_)
  refine lv_aload_n hx hb dL_law__593 rfl (lv_at hl 2 rfl) ?_
  refine lv_iload hx hb dL_law__594 (lv_at hl 1 rfl) ?_
  refine lv_iconst (v := 2) hx hb dL_law__596 (by decide) ?_
  refine lv_iadd hx hb dL_law__597 ?_
  refine gx_sld E hw hX hbl hbA dL_law__598 (fun v5 => ?_)
  refine W_bind fun z6 hz => ?_
  refine w_after (cells1 := c9 + 2) (slots1 := d9 + 12) (w_runV E kV_L_155 kc_X12_person (t_R_person l hfl G on N v4 v5 z3.2 r ((fun z => (.inl (some (.int z.1)), z3.2, z.2)) z6) (by rw [hz]; rfl)) ⟨Nat.le_of_ble_eq_true rfl, Nat.le_of_ble_eq_true rfl⟩ hw (w_recvR E hw on) rfl hl.1 rfl (Nat.le_of_ble_eq_true rfl) dL_law__599 ⟨by show c9 + 2 + 0 ≤ 601024; omega, by show d9 + 12 + 0 ≤ 7293034; omega⟩) hw rfl (by show c9 + 2 + 0 ≤ c9 + 2; omega) (by show d9 + 12 + 0 ≤ d9 + 12; omega) (fun H locs hw => ?_)
  refine W.eq (g2 := F0 m 602 ls [.int z6.1]) rfl ?_
  have hw : w_W G z3.2 z6.2 s H locs := hw
  refine lv_istore (lv' := [(6, .int z6.1), (5, .int z3.1), (4, .int i9), (0, .ref b9), (1, .ref x9), (2, .ref (g_r G)), (3, .ref o9)]) hx hb dL_law__602 hl (by decide) rfl (fun ls hl => ?_)
  refine lv_aload_n hx hb dL_law__604 rfl (lv_at hl 5 rfl) ?_
  refine W_bind fun z7 hz => ?_
  refine w_after (cells1 := c9 + 2) (slots1 := d9 + 12) (w_runV E kV_L_136 kc_X12_thrown (t_R_thrown l hfl G on z3.2 z6.2 ((fun z => (.inl (some (.int z)), z3.2, z6.2)) z7) (by rw [hz]; rfl)) ⟨Nat.le_of_ble_eq_true rfl, Nat.le_of_ble_eq_true rfl⟩ hw (w_recvR E hw on) rfl hl.1 rfl (Nat.le_of_ble_eq_true rfl) dL_law__605 ⟨by show c9 + 2 + 0 ≤ 601024; omega, by show d9 + 12 + 0 ≤ 7293034; omega⟩) hw rfl (by show c9 + 2 + 0 ≤ c9 + 2; omega) (by show d9 + 12 + 0 ≤ d9 + 12; omega) (fun H locs hw => ?_)
  refine W.eq (g2 := F0 m 608 ls [.int z7]) rfl ?_
  have hw : w_W G z3.2 z6.2 s H locs := hw
  refine lv_iload hx hb dL_law__608 (lv_at hl 1 rfl) ?_
  refine cx_icmp_eq (tgt := 615) E dL_law__610 (by decide) (fun _ => ?_) (fun _ => ?_)
  · refine lv_iload hx hb dL_law__615 (lv_at hl 1 rfl) ?_
    refine cx_if_ne (tgt := 632) E dL_law__617 (by decide) (fun _ => ?_) (fun _ => ?_)
    · refine lv_goto (tgt := 2675) hx hb dL_law__632 (by decide) ?_
      refine W.widen (k := c9 + 8) (n := d9 + 900) (by omega) (by omega) ?_
      exact hk z3.2 z6.2 _ _ _ hw (lv_sub hl [2, 3, 4, 5, 6] rfl)
    · refine lv_aload_n hx hb dL_law__620 rfl (lv_at hl 6 rfl) ?_
      refine lv_iconst (v := 0) hx hb dL_law__621 (by decide) ?_
      refine gx_lald E hw dL_law__622 (fun v8 _ => ?_)
      refine lv_iload hx hb dL_law__623 (lv_at hl 0 rfl) ?_
      refine lv_i2l (v := Int32.toInt64 z6.1) hx hb dL_law__625 rfl ?_
      refine W.lcmp hx hb dL_law__626 ?_
      refine cx_if_eq (tgt := 632) E dL_law__627 (by decide) (fun _ => ?_) (fun _ => ?_)
      · refine lv_goto (tgt := 2675) hx hb dL_law__632 (by decide) ?_
        refine W.widen (k := c9 + 8) (n := d9 + 900) (by omega) (by omega) ?_
        exact hk z3.2 z6.2 _ _ _ hw (lv_sub hl [2, 3, 4, 5, 6] rfl)
      · refine lv_iconst (v := 0) hx hb dL_law__630 (by decide) ?_
        exact W_none
  · refine lv_iconst (v := 0) hx hb dL_law__613 (by decide) ?_
    exact W_none
set_option maxHeartbeats 4000000 in
set_option maxRecDepth 100000 in
theorem t_L_c8 {p : Program} {l : Launch} {e : Env} {s : State} {m : MethodId} {args : Array Value} {below : List Frame} {meth : Method} {c : Code} {H : Heap} {locs : List Loc} {ls : Array Slot} {G : wG} {M : Mem} {r : Rho} {xs : Nat → Int32} {L b9 x9 o9 c9 d9 N : Nat} {i9 : Int32} {kk : Mem → Rho → Option (Mem × Rho)} (hfl : l.stackTraces = false) (on : g_on G = true) (E : wE G p l s m args meth c cL_law_ "CheekTownLaw" 7) (hX : va_X b9 L xs s s.heap) (hbl : b9 < s.heap.size) (hbA : ¬ g_A G b9) (hw : w_W G M r s H locs) (hl : lv_has ls 7 [(4, .int i9), (0, .ref b9), (1, .ref x9), (2, .ref (g_r G)), (3, .ref o9)]) (hc : c9 + 8 ≤ 601024) (hd : d9 + 900 ≤ 7293034) (hk : ∀ (M : Mem) (r : Rho) (H : Heap) (locs : List Loc) (ls : Array Slot), w_W G M r s H locs → lv_has ls 7 [(4, .int i9), (0, .ref b9), (1, .ref x9), (2, .ref (g_r G)), (3, .ref o9)] → W p l e room_1 s m args below meth c H locs (c9 + 8) (d9 + 900) (PQ G below args s 601024 7293034 (fun z : Mem × Rho => (.inl (some (.int 1)), z)) (kk M r)) (F0 m 2675 ls [])) : W p l e room_1 s m args below meth c H locs c9 d9 (PQ G below args s 601024 7293034 (fun z : Mem × Rho => (.inl (some (.int 1)), z)) (f_L_c8 N xs L x9 o9 i9 M r kk)) (F0 m 635 ls []) := by
  obtain ⟨hx, hb, hts, hown, hml, hTT, -⟩ := id E
  unfold f_L_c8
  refine lv_aload_n hx hb dL_law__635 rfl (lv_at hl 2 rfl) ?_
  refine lv_aload_n hx hb dL_law__636 rfl (lv_at hl 1 rfl) ?_
  refine lv_iload hx hb dL_law__637 (lv_at hl 0 rfl) ?_
  refine lv_iconst (v := 1) hx hb dL_law__639 (by decide) ?_
  refine lv_iadd hx hb dL_law__640 ?_
  refine gx_sld E hw hX hbl hbA dL_law__641 (fun v1 => ?_)
  refine lv_aload_n hx hb dL_law__642 rfl (lv_at hl 1 rfl) ?_
  refine lv_iload hx hb dL_law__643 (lv_at hl 0 rfl) ?_
  refine lv_iconst (v := 2) hx hb dL_law__645 (by decide) ?_
  refine lv_iadd hx hb dL_law__646 ?_
  refine gx_sld E hw hX hbl hbA dL_law__647 (fun v2 => ?_)
  refine lv_aload_n hx hb dL_law__648 rfl (lv_at hl 1 rfl) ?_
  refine lv_iload hx hb dL_law__649 (lv_at hl 0 rfl) ?_
  refine lv_iconst (v := 3) hx hb dL_law__651 (by decide) ?_
  refine lv_iadd hx hb dL_law__652 ?_
  refine gx_sld E hw hX hbl hbA dL_law__653 (fun v3 => ?_)
  refine gx_flag E dL_law__654 dL_law__657 dL_law__658 dL_law__661 ?_
  refine W.eq (g2 := F0 m 662 ls [.int (bz v3), .int v2, .int v1, .ref x9]) rfl ?_
  refine lv_aload_n hx hb dL_law__662 rfl (lv_at hl 4 rfl) ?_
  refine W_bind fun z4 hz => ?_
  refine w_after (cells1 := c9 + 3) (slots1 := d9 + 18) (w_runSH E kS_L_156 kcH_L_saw (t_L_saw l hfl G x9 v1 v2 (bz v3) o9 M r ((fun z => (.inl (some (.int z.1)), z.2, r)) z4) (by rw [hz]; rfl)) ⟨Nat.le_of_ble_eq_true rfl, Nat.le_of_ble_eq_true rfl⟩ hw rfl hl.1 rfl (Nat.le_of_ble_eq_true rfl) dL_law__663 ⟨by show c9 + 0 + 3 ≤ 601024; omega, by show d9 + 0 + 18 ≤ 7293034; omega⟩) hw rfl (by show c9 + 0 + 3 ≤ c9 + 3; omega) (by show d9 + 0 + 18 ≤ d9 + 18; omega) (fun H locs hw => ?_)
  refine W.eq (g2 := F0 m 666 ls [.int z4.1]) rfl ?_
  have hw : w_W G z4.2 r s H locs := hw
  refine lv_istore (lv' := [(5, .int z4.1), (4, .int i9), (0, .ref b9), (1, .ref x9), (2, .ref (g_r G)), (3, .ref o9)]) hx hb dL_law__666 hl (by decide) rfl (fun ls hl => ?_)
  refine lv_aload_n hx hb dL_law__668 rfl (lv_at hl 4 rfl) ?_
  refine lv_aload_n hx hb dL_law__669 rfl (lv_at hl 2 rfl) ?_
  refine lv_iload hx hb dL_law__670 (lv_at hl 1 rfl) ?_
  refine lv_iconst (v := 1) hx hb dL_law__672 (by decide) ?_
  refine lv_iadd hx hb dL_law__673 ?_
  refine gx_sld E hw hX hbl hbA dL_law__674 (fun v5 => ?_)
  refine lv_aload_n hx hb dL_law__675 rfl (lv_at hl 2 rfl) ?_
  refine lv_iload hx hb dL_law__676 (lv_at hl 1 rfl) ?_
  refine lv_iconst (v := 2) hx hb dL_law__678 (by decide) ?_
  refine lv_iadd hx hb dL_law__679 ?_
  refine gx_sld E hw hX hbl hbA dL_law__680 (fun v6 => ?_)
  refine lv_aload_n hx hb dL_law__681 rfl (lv_at hl 2 rfl) ?_
  refine lv_iload hx hb dL_law__682 (lv_at hl 1 rfl) ?_
  refine lv_iconst (v := 3) hx hb dL_law__684 (by decide) ?_
  refine lv_iadd hx hb dL_law__685 ?_
  refine gx_sld E hw hX hbl hbA dL_law__686 (fun v7 => ?_)
  refine gx_flag E dL_law__687 dL_law__690 dL_law__691 dL_law__694 ?_
  refine W.eq (g2 := F0 m 695 ls [.int (bz v7), .int v6, .int v5, .ref (g_r G)]) rfl ?_
  refine W_bind fun z8 hz => ?_
  refine w_after (cells1 := c9 + 3) (slots1 := d9 + 18) (w_runV E kV_L_159 kc_X12_saw (t_R_saw l hfl G on v5 v6 (bz v7) z4.2 r ((fun z => (.inl (some (.int z.1)), z4.2, z.2)) z8) (by rw [hz]; rfl)) ⟨Nat.le_of_ble_eq_true rfl, Nat.le_of_ble_eq_true rfl⟩ hw (w_recvR E hw on) rfl hl.1 rfl (Nat.le_of_ble_eq_true rfl) dL_law__695 ⟨by show c9 + 3 + 0 ≤ 601024; omega, by show d9 + 18 + 0 ≤ 7293034; omega⟩) hw rfl (by show c9 + 3 + 0 ≤ c9 + 3; omega) (by show d9 + 18 + 0 ≤ d9 + 18; omega) (fun H locs hw => ?_)
  refine W.eq (g2 := F0 m 698 ls [.int z8.1]) rfl ?_
  have hw : w_W G z4.2 z8.2 s H locs := hw
  refine lv_istore (lv' := [(6, .int z8.1), (5, .int z4.1), (4, .int i9), (0, .ref b9), (1, .ref x9), (2, .ref (g_r G)), (3, .ref o9)]) hx hb dL_law__698 hl (by decide) rfl (fun ls hl => ?_)
  refine lv_aload_n hx hb dL_law__700 rfl (lv_at hl 5 rfl) ?_
  refine W_bind fun z9 hz => ?_
  refine w_after (cells1 := c9 + 3) (slots1 := d9 + 18) (w_runV E kV_L_136 kc_X12_thrown (t_R_thrown l hfl G on z4.2 z8.2 ((fun z => (.inl (some (.int z)), z4.2, z8.2)) z9) (by rw [hz]; rfl)) ⟨Nat.le_of_ble_eq_true rfl, Nat.le_of_ble_eq_true rfl⟩ hw (w_recvR E hw on) rfl hl.1 rfl (Nat.le_of_ble_eq_true rfl) dL_law__701 ⟨by show c9 + 3 + 0 ≤ 601024; omega, by show d9 + 18 + 0 ≤ 7293034; omega⟩) hw rfl (by show c9 + 3 + 0 ≤ c9 + 3; omega) (by show d9 + 18 + 0 ≤ d9 + 18; omega) (fun H locs hw => ?_)
  refine W.eq (g2 := F0 m 704 ls [.int z9]) rfl ?_
  have hw : w_W G z4.2 z8.2 s H locs := hw
  refine lv_iload hx hb dL_law__704 (lv_at hl 1 rfl) ?_
  refine cx_icmp_eq (tgt := 711) E dL_law__706 (by decide) (fun _ => ?_) (fun _ => ?_)
  · refine lv_iload hx hb dL_law__711 (lv_at hl 1 rfl) ?_
    refine cx_if_ne (tgt := 728) E dL_law__713 (by decide) (fun _ => ?_) (fun _ => ?_)
    · refine lv_goto (tgt := 2675) hx hb dL_law__728 (by decide) ?_
      refine W.widen (k := c9 + 8) (n := d9 + 900) (by omega) (by omega) ?_
      exact hk z4.2 z8.2 _ _ _ hw (lv_sub hl [2, 3, 4, 5, 6] rfl)
    · refine lv_aload_n hx hb dL_law__716 rfl (lv_at hl 6 rfl) ?_
      refine lv_iconst (v := 0) hx hb dL_law__717 (by decide) ?_
      refine gx_lald E hw dL_law__718 (fun v10 _ => ?_)
      refine lv_iload hx hb dL_law__719 (lv_at hl 0 rfl) ?_
      refine lv_i2l (v := Int32.toInt64 z8.1) hx hb dL_law__721 rfl ?_
      refine W.lcmp hx hb dL_law__722 ?_
      refine cx_if_eq (tgt := 728) E dL_law__723 (by decide) (fun _ => ?_) (fun _ => ?_)
      · refine lv_goto (tgt := 2675) hx hb dL_law__728 (by decide) ?_
        refine W.widen (k := c9 + 8) (n := d9 + 900) (by omega) (by omega) ?_
        exact hk z4.2 z8.2 _ _ _ hw (lv_sub hl [2, 3, 4, 5, 6] rfl)
      · refine lv_iconst (v := 0) hx hb dL_law__726 (by decide) ?_
        exact W_none
  · refine lv_iconst (v := 0) hx hb dL_law__709 (by decide) ?_
    exact W_none
set_option maxHeartbeats 4000000 in
set_option maxRecDepth 100000 in
theorem t_L_c9 {p : Program} {l : Launch} {e : Env} {s : State} {m : MethodId} {args : Array Value} {below : List Frame} {meth : Method} {c : Code} {H : Heap} {locs : List Loc} {ls : Array Slot} {G : wG} {M : Mem} {r : Rho} {xs : Nat → Int32} {L b9 x9 o9 c9 d9 N : Nat} {i9 : Int32} {kk : Mem → Rho → Option (Mem × Rho)} (hfl : l.stackTraces = false) (on : g_on G = true) (E : wE G p l s m args meth c cL_law_ "CheekTownLaw" 7) (hX : va_X b9 L xs s s.heap) (hbl : b9 < s.heap.size) (hbA : ¬ g_A G b9) (hw : w_W G M r s H locs) (hl : lv_has ls 7 [(4, .int i9), (0, .ref b9), (1, .ref x9), (2, .ref (g_r G)), (3, .ref o9)]) (hc : c9 + 8 ≤ 601024) (hd : d9 + 900 ≤ 7293034) (hk : ∀ (M : Mem) (r : Rho) (H : Heap) (locs : List Loc) (ls : Array Slot), w_W G M r s H locs → lv_has ls 7 [(4, .int i9), (0, .ref b9), (1, .ref x9), (2, .ref (g_r G)), (3, .ref o9)] → W p l e room_1 s m args below meth c H locs (c9 + 8) (d9 + 900) (PQ G below args s 601024 7293034 (fun z : Mem × Rho => (.inl (some (.int 1)), z)) (kk M r)) (F0 m 2675 ls [])) : W p l e room_1 s m args below meth c H locs c9 d9 (PQ G below args s 601024 7293034 (fun z : Mem × Rho => (.inl (some (.int 1)), z)) (f_L_c9 N xs L x9 o9 i9 M r kk)) (F0 m 731 ls []) := by
  obtain ⟨hx, hb, hts, hown, hml, hTT, -⟩ := id E
  unfold f_L_c9
  refine lv_aload_n hx hb dL_law__731 rfl (lv_at hl 2 rfl) ?_
  refine lv_aload_n hx hb dL_law__732 rfl (lv_at hl 1 rfl) ?_
  refine lv_iload hx hb dL_law__733 (lv_at hl 0 rfl) ?_
  refine lv_iconst (v := 1) hx hb dL_law__735 (by decide) ?_
  refine lv_iadd hx hb dL_law__736 ?_
  refine gx_sld E hw hX hbl hbA dL_law__737 (fun v1 => ?_)
  refine lv_aload_n hx hb dL_law__738 rfl (lv_at hl 1 rfl) ?_
  refine lv_iload hx hb dL_law__739 (lv_at hl 0 rfl) ?_
  refine lv_iconst (v := 2) hx hb dL_law__741 (by decide) ?_
  refine lv_iadd hx hb dL_law__742 ?_
  refine gx_sld E hw hX hbl hbA dL_law__743 (fun v2 => ?_)
  refine gx_flag E dL_law__744 dL_law__747 dL_law__748 dL_law__751 ?_
  refine W.eq (g2 := F0 m 752 ls [.int (bz v2), .int v1, .ref x9]) rfl ?_
  refine lv_aload_n hx hb dL_law__752 rfl (lv_at hl 4 rfl) ?_
  refine W_bind fun z3 hz => ?_
  refine w_after (cells1 := c9 + 1) (slots1 := d9 + 6) (w_runSH E kS_L_160 kcH_L_tie (t_L_tie l hfl G x9 v1 (bz v2) o9 M r ((fun z => (.inl (some (.int z.1)), z.2, r)) z3) (by rw [hz]; rfl)) ⟨Nat.le_of_ble_eq_true rfl, Nat.le_of_ble_eq_true rfl⟩ hw rfl hl.1 rfl (Nat.le_of_ble_eq_true rfl) dL_law__753 ⟨by show c9 + 0 + 1 ≤ 601024; omega, by show d9 + 0 + 6 ≤ 7293034; omega⟩) hw rfl (by show c9 + 0 + 1 ≤ c9 + 1; omega) (by show d9 + 0 + 6 ≤ d9 + 6; omega) (fun H locs hw => ?_)
  refine W.eq (g2 := F0 m 756 ls [.int z3.1]) rfl ?_
  have hw : w_W G z3.2 r s H locs := hw
  refine lv_istore (lv' := [(5, .int z3.1), (4, .int i9), (0, .ref b9), (1, .ref x9), (2, .ref (g_r G)), (3, .ref o9)]) hx hb dL_law__756 hl (by decide) rfl (fun ls hl => ?_)
  refine lv_aload_n hx hb dL_law__758 rfl (lv_at hl 4 rfl) ?_
  refine lv_aload_n hx hb dL_law__759 rfl (lv_at hl 2 rfl) ?_
  refine lv_iload hx hb dL_law__760 (lv_at hl 1 rfl) ?_
  refine lv_iconst (v := 1) hx hb dL_law__762 (by decide) ?_
  refine lv_iadd hx hb dL_law__763 ?_
  refine gx_sld E hw hX hbl hbA dL_law__764 (fun v4 => ?_)
  refine lv_aload_n hx hb dL_law__765 rfl (lv_at hl 2 rfl) ?_
  refine lv_iload hx hb dL_law__766 (lv_at hl 1 rfl) ?_
  refine lv_iconst (v := 2) hx hb dL_law__768 (by decide) ?_
  refine lv_iadd hx hb dL_law__769 ?_
  refine gx_sld E hw hX hbl hbA dL_law__770 (fun v5 => ?_)
  refine gx_flag E dL_law__771 dL_law__774 dL_law__775 dL_law__778 ?_
  refine W.eq (g2 := F0 m 779 ls [.int (bz v5), .int v4, .ref (g_r G)]) rfl ?_
  refine W_bind fun z6 hz => ?_
  refine w_after (cells1 := c9 + 1) (slots1 := d9 + 6) (w_runV E kV_L_163 kc_X12_tie (t_R_tie l hfl G on v4 (bz v5) z3.2 r ((fun z => (.inl (some (.int z.1)), z3.2, z.2)) z6) (by rw [hz]; rfl)) ⟨Nat.le_of_ble_eq_true rfl, Nat.le_of_ble_eq_true rfl⟩ hw (w_recvR E hw on) rfl hl.1 rfl (Nat.le_of_ble_eq_true rfl) dL_law__779 ⟨by show c9 + 1 + 0 ≤ 601024; omega, by show d9 + 6 + 0 ≤ 7293034; omega⟩) hw rfl (by show c9 + 1 + 0 ≤ c9 + 1; omega) (by show d9 + 6 + 0 ≤ d9 + 6; omega) (fun H locs hw => ?_)
  refine W.eq (g2 := F0 m 782 ls [.int z6.1]) rfl ?_
  have hw : w_W G z3.2 z6.2 s H locs := hw
  refine lv_istore (lv' := [(6, .int z6.1), (5, .int z3.1), (4, .int i9), (0, .ref b9), (1, .ref x9), (2, .ref (g_r G)), (3, .ref o9)]) hx hb dL_law__782 hl (by decide) rfl (fun ls hl => ?_)
  refine lv_aload_n hx hb dL_law__784 rfl (lv_at hl 5 rfl) ?_
  refine W_bind fun z7 hz => ?_
  refine w_after (cells1 := c9 + 1) (slots1 := d9 + 6) (w_runV E kV_L_136 kc_X12_thrown (t_R_thrown l hfl G on z3.2 z6.2 ((fun z => (.inl (some (.int z)), z3.2, z6.2)) z7) (by rw [hz]; rfl)) ⟨Nat.le_of_ble_eq_true rfl, Nat.le_of_ble_eq_true rfl⟩ hw (w_recvR E hw on) rfl hl.1 rfl (Nat.le_of_ble_eq_true rfl) dL_law__785 ⟨by show c9 + 1 + 0 ≤ 601024; omega, by show d9 + 6 + 0 ≤ 7293034; omega⟩) hw rfl (by show c9 + 1 + 0 ≤ c9 + 1; omega) (by show d9 + 6 + 0 ≤ d9 + 6; omega) (fun H locs hw => ?_)
  refine W.eq (g2 := F0 m 788 ls [.int z7]) rfl ?_
  have hw : w_W G z3.2 z6.2 s H locs := hw
  refine lv_iload hx hb dL_law__788 (lv_at hl 1 rfl) ?_
  refine cx_icmp_eq (tgt := 795) E dL_law__790 (by decide) (fun _ => ?_) (fun _ => ?_)
  · refine lv_iload hx hb dL_law__795 (lv_at hl 1 rfl) ?_
    refine cx_if_ne (tgt := 812) E dL_law__797 (by decide) (fun _ => ?_) (fun _ => ?_)
    · refine lv_goto (tgt := 2675) hx hb dL_law__812 (by decide) ?_
      refine W.widen (k := c9 + 8) (n := d9 + 900) (by omega) (by omega) ?_
      exact hk z3.2 z6.2 _ _ _ hw (lv_sub hl [2, 3, 4, 5, 6] rfl)
    · refine lv_aload_n hx hb dL_law__800 rfl (lv_at hl 6 rfl) ?_
      refine lv_iconst (v := 0) hx hb dL_law__801 (by decide) ?_
      refine gx_lald E hw dL_law__802 (fun v8 _ => ?_)
      refine lv_iload hx hb dL_law__803 (lv_at hl 0 rfl) ?_
      refine lv_i2l (v := Int32.toInt64 z6.1) hx hb dL_law__805 rfl ?_
      refine W.lcmp hx hb dL_law__806 ?_
      refine cx_if_eq (tgt := 812) E dL_law__807 (by decide) (fun _ => ?_) (fun _ => ?_)
      · refine lv_goto (tgt := 2675) hx hb dL_law__812 (by decide) ?_
        refine W.widen (k := c9 + 8) (n := d9 + 900) (by omega) (by omega) ?_
        exact hk z3.2 z6.2 _ _ _ hw (lv_sub hl [2, 3, 4, 5, 6] rfl)
      · refine lv_iconst (v := 0) hx hb dL_law__810 (by decide) ?_
        exact W_none
  · refine lv_iconst (v := 0) hx hb dL_law__793 (by decide) ?_
    exact W_none
set_option maxHeartbeats 4000000 in
set_option maxRecDepth 100000 in
theorem t_L_c10 {p : Program} {l : Launch} {e : Env} {s : State} {m : MethodId} {args : Array Value} {below : List Frame} {meth : Method} {c : Code} {H : Heap} {locs : List Loc} {ls : Array Slot} {G : wG} {M : Mem} {r : Rho} {xs : Nat → Int32} {L b9 x9 o9 c9 d9 N : Nat} {i9 : Int32} {kk : Mem → Rho → Option (Mem × Rho)} (hfl : l.stackTraces = false) (on : g_on G = true) (E : wE G p l s m args meth c cL_law_ "CheekTownLaw" 7) (hX : va_X b9 L xs s s.heap) (hbl : b9 < s.heap.size) (hbA : ¬ g_A G b9) (hw : w_W G M r s H locs) (hl : lv_has ls 7 [(4, .int i9), (0, .ref b9), (1, .ref x9), (2, .ref (g_r G)), (3, .ref o9)]) (hc : c9 + 8 ≤ 601024) (hd : d9 + 900 ≤ 7293034) (hk : ∀ (M : Mem) (r : Rho) (H : Heap) (locs : List Loc) (ls : Array Slot), w_W G M r s H locs → lv_has ls 7 [(4, .int i9), (0, .ref b9), (1, .ref x9), (2, .ref (g_r G)), (3, .ref o9)] → W p l e room_1 s m args below meth c H locs (c9 + 8) (d9 + 900) (PQ G below args s 601024 7293034 (fun z : Mem × Rho => (.inl (some (.int 1)), z)) (kk M r)) (F0 m 2675 ls [])) : W p l e room_1 s m args below meth c H locs c9 d9 (PQ G below args s 601024 7293034 (fun z : Mem × Rho => (.inl (some (.int 1)), z)) (f_L_c10 N xs L x9 o9 i9 M r kk)) (F0 m 815 ls []) := by
  obtain ⟨hx, hb, hts, hown, hml, hTT, -⟩ := id E
  unfold f_L_c10
  refine lv_aload_n hx hb dL_law__815 rfl (lv_at hl 2 rfl) ?_
  refine lv_aload_n hx hb dL_law__816 rfl (lv_at hl 1 rfl) ?_
  refine lv_iload hx hb dL_law__817 (lv_at hl 0 rfl) ?_
  refine lv_iconst (v := 1) hx hb dL_law__819 (by decide) ?_
  refine lv_iadd hx hb dL_law__820 ?_
  refine gx_sld E hw hX hbl hbA dL_law__821 (fun v1 => ?_)
  refine lv_aload_n hx hb dL_law__822 rfl (lv_at hl 1 rfl) ?_
  refine lv_iload hx hb dL_law__823 (lv_at hl 0 rfl) ?_
  refine lv_iconst (v := 2) hx hb dL_law__825 (by decide) ?_
  refine lv_iadd hx hb dL_law__826 ?_
  refine gx_sld E hw hX hbl hbA dL_law__827 (fun v2 => ?_)
  refine lv_aload_n hx hb dL_law__828 rfl (lv_at hl 4 rfl) ?_
  refine W_bind fun z3 hz => ?_
  refine w_after (cells1 := c9 + 3) (slots1 := d9 + 18) (w_runSH E kS_L_164 kcH_L_will (t_L_will l hfl G N x9 v1 v2 o9 M r ((fun z => (.inl (some (.int z.1)), z.2, r)) z3) (by rw [hz]; rfl)) ⟨Nat.le_of_ble_eq_true rfl, Nat.le_of_ble_eq_true rfl⟩ hw rfl hl.1 rfl (Nat.le_of_ble_eq_true rfl) dL_law__829 ⟨by show c9 + 0 + 3 ≤ 601024; omega, by show d9 + 0 + 18 ≤ 7293034; omega⟩) hw rfl (by show c9 + 0 + 3 ≤ c9 + 3; omega) (by show d9 + 0 + 18 ≤ d9 + 18; omega) (fun H locs hw => ?_)
  refine W.eq (g2 := F0 m 832 ls [.int z3.1]) rfl ?_
  have hw : w_W G z3.2 r s H locs := hw
  refine lv_istore (lv' := [(5, .int z3.1), (4, .int i9), (0, .ref b9), (1, .ref x9), (2, .ref (g_r G)), (3, .ref o9)]) hx hb dL_law__832 hl (by decide) rfl (fun ls hl => ?_)
  refine lv_aload_n hx hb dL_law__834 rfl (lv_at hl 4 rfl) ?_
  refine lv_aload_n hx hb dL_law__835 rfl (lv_at hl 2 rfl) ?_
  refine lv_iload hx hb dL_law__836 (lv_at hl 1 rfl) ?_
  refine lv_iconst (v := 1) hx hb dL_law__838 (by decide) ?_
  refine lv_iadd hx hb dL_law__839 ?_
  refine gx_sld E hw hX hbl hbA dL_law__840 (fun v4 => ?_)
  refine lv_aload_n hx hb dL_law__841 rfl (lv_at hl 2 rfl) ?_
  refine lv_iload hx hb dL_law__842 (lv_at hl 1 rfl) ?_
  refine lv_iconst (v := 2) hx hb dL_law__844 (by decide) ?_
  refine lv_iadd hx hb dL_law__845 ?_
  refine gx_sld E hw hX hbl hbA dL_law__846 (fun v5 => ?_)
  refine W_bind fun z6 hz => ?_
  refine w_after (cells1 := c9 + 3) (slots1 := d9 + 18) (w_runV E kV_L_166 kc_X12_will (t_R_will l hfl G on N v4 v5 z3.2 r ((fun z => (.inl (some (.int z.1)), z3.2, z.2)) z6) (by rw [hz]; rfl)) ⟨Nat.le_of_ble_eq_true rfl, Nat.le_of_ble_eq_true rfl⟩ hw (w_recvR E hw on) rfl hl.1 rfl (Nat.le_of_ble_eq_true rfl) dL_law__847 ⟨by show c9 + 3 + 0 ≤ 601024; omega, by show d9 + 18 + 0 ≤ 7293034; omega⟩) hw rfl (by show c9 + 3 + 0 ≤ c9 + 3; omega) (by show d9 + 18 + 0 ≤ d9 + 18; omega) (fun H locs hw => ?_)
  refine W.eq (g2 := F0 m 850 ls [.int z6.1]) rfl ?_
  have hw : w_W G z3.2 z6.2 s H locs := hw
  refine lv_istore (lv' := [(6, .int z6.1), (5, .int z3.1), (4, .int i9), (0, .ref b9), (1, .ref x9), (2, .ref (g_r G)), (3, .ref o9)]) hx hb dL_law__850 hl (by decide) rfl (fun ls hl => ?_)
  refine lv_aload_n hx hb dL_law__852 rfl (lv_at hl 5 rfl) ?_
  refine W_bind fun z7 hz => ?_
  refine w_after (cells1 := c9 + 3) (slots1 := d9 + 18) (w_runV E kV_L_136 kc_X12_thrown (t_R_thrown l hfl G on z3.2 z6.2 ((fun z => (.inl (some (.int z)), z3.2, z6.2)) z7) (by rw [hz]; rfl)) ⟨Nat.le_of_ble_eq_true rfl, Nat.le_of_ble_eq_true rfl⟩ hw (w_recvR E hw on) rfl hl.1 rfl (Nat.le_of_ble_eq_true rfl) dL_law__853 ⟨by show c9 + 3 + 0 ≤ 601024; omega, by show d9 + 18 + 0 ≤ 7293034; omega⟩) hw rfl (by show c9 + 3 + 0 ≤ c9 + 3; omega) (by show d9 + 18 + 0 ≤ d9 + 18; omega) (fun H locs hw => ?_)
  refine W.eq (g2 := F0 m 856 ls [.int z7]) rfl ?_
  have hw : w_W G z3.2 z6.2 s H locs := hw
  refine lv_iload hx hb dL_law__856 (lv_at hl 1 rfl) ?_
  refine cx_icmp_eq (tgt := 863) E dL_law__858 (by decide) (fun _ => ?_) (fun _ => ?_)
  · refine lv_iload hx hb dL_law__863 (lv_at hl 1 rfl) ?_
    refine cx_if_ne (tgt := 880) E dL_law__865 (by decide) (fun _ => ?_) (fun _ => ?_)
    · refine lv_goto (tgt := 2675) hx hb dL_law__880 (by decide) ?_
      refine W.widen (k := c9 + 8) (n := d9 + 900) (by omega) (by omega) ?_
      exact hk z3.2 z6.2 _ _ _ hw (lv_sub hl [2, 3, 4, 5, 6] rfl)
    · refine lv_aload_n hx hb dL_law__868 rfl (lv_at hl 6 rfl) ?_
      refine lv_iconst (v := 0) hx hb dL_law__869 (by decide) ?_
      refine gx_lald E hw dL_law__870 (fun v8 _ => ?_)
      refine lv_iload hx hb dL_law__871 (lv_at hl 0 rfl) ?_
      refine lv_i2l (v := Int32.toInt64 z6.1) hx hb dL_law__873 rfl ?_
      refine W.lcmp hx hb dL_law__874 ?_
      refine cx_if_eq (tgt := 880) E dL_law__875 (by decide) (fun _ => ?_) (fun _ => ?_)
      · refine lv_goto (tgt := 2675) hx hb dL_law__880 (by decide) ?_
        refine W.widen (k := c9 + 8) (n := d9 + 900) (by omega) (by omega) ?_
        exact hk z3.2 z6.2 _ _ _ hw (lv_sub hl [2, 3, 4, 5, 6] rfl)
      · refine lv_iconst (v := 0) hx hb dL_law__878 (by decide) ?_
        exact W_none
  · refine lv_iconst (v := 0) hx hb dL_law__861 (by decide) ?_
    exact W_none
set_option maxHeartbeats 4000000 in
set_option maxRecDepth 100000 in
theorem t_L_c11 {p : Program} {l : Launch} {e : Env} {s : State} {m : MethodId} {args : Array Value} {below : List Frame} {meth : Method} {c : Code} {H : Heap} {locs : List Loc} {ls : Array Slot} {G : wG} {M : Mem} {r : Rho} {xs : Nat → Int32} {L b9 x9 o9 c9 d9 N : Nat} {i9 : Int32} {kk : Mem → Rho → Option (Mem × Rho)} (hfl : l.stackTraces = false) (on : g_on G = true) (E : wE G p l s m args meth c cL_law_ "CheekTownLaw" 7) (hX : va_X b9 L xs s s.heap) (hbl : b9 < s.heap.size) (hbA : ¬ g_A G b9) (hw : w_W G M r s H locs) (hl : lv_has ls 7 [(4, .int i9), (0, .ref b9), (1, .ref x9), (2, .ref (g_r G)), (3, .ref o9)]) (hc : c9 + 8 ≤ 601024) (hd : d9 + 900 ≤ 7293034) (hk : ∀ (M : Mem) (r : Rho) (H : Heap) (locs : List Loc) (ls : Array Slot), w_W G M r s H locs → lv_has ls 7 [(4, .int i9), (0, .ref b9), (1, .ref x9), (2, .ref (g_r G)), (3, .ref o9)] → W p l e room_1 s m args below meth c H locs (c9 + 8) (d9 + 900) (PQ G below args s 601024 7293034 (fun z : Mem × Rho => (.inl (some (.int 1)), z)) (kk M r)) (F0 m 2675 ls [])) : W p l e room_1 s m args below meth c H locs c9 d9 (PQ G below args s 601024 7293034 (fun z : Mem × Rho => (.inl (some (.int 1)), z)) (f_L_c11 N xs L x9 o9 i9 M r kk)) (F0 m 883 ls []) := by
  obtain ⟨hx, hb, hts, hown, hml, hTT, -⟩ := id E
  unfold f_L_c11
  refine lv_aload_n hx hb dL_law__883 rfl (lv_at hl 2 rfl) ?_
  refine lv_aload_n hx hb dL_law__884 rfl (lv_at hl 1 rfl) ?_
  refine lv_iload hx hb dL_law__885 (lv_at hl 0 rfl) ?_
  refine lv_iconst (v := 1) hx hb dL_law__887 (by decide) ?_
  refine lv_iadd hx hb dL_law__888 ?_
  refine gx_sld E hw hX hbl hbA dL_law__889 (fun v1 => ?_)
  refine lv_aload_n hx hb dL_law__890 rfl (lv_at hl 1 rfl) ?_
  refine lv_iload hx hb dL_law__891 (lv_at hl 0 rfl) ?_
  refine lv_iconst (v := 2) hx hb dL_law__893 (by decide) ?_
  refine lv_iadd hx hb dL_law__894 ?_
  refine gx_sld E hw hX hbl hbA dL_law__895 (fun v2 => ?_)
  refine lv_aload_n hx hb dL_law__896 rfl (lv_at hl 4 rfl) ?_
  refine W_bind fun z3 hz => ?_
  refine w_after (cells1 := c9 + 3) (slots1 := d9 + 18) (w_runSH E kS_L_167 kcH_L_meet (t_L_meet l hfl G N x9 v1 v2 o9 M r ((fun z => (.inl (some (.int z.1)), z.2, r)) z3) (by rw [hz]; rfl)) ⟨Nat.le_of_ble_eq_true rfl, Nat.le_of_ble_eq_true rfl⟩ hw rfl hl.1 rfl (Nat.le_of_ble_eq_true rfl) dL_law__897 ⟨by show c9 + 0 + 3 ≤ 601024; omega, by show d9 + 0 + 18 ≤ 7293034; omega⟩) hw rfl (by show c9 + 0 + 3 ≤ c9 + 3; omega) (by show d9 + 0 + 18 ≤ d9 + 18; omega) (fun H locs hw => ?_)
  refine W.eq (g2 := F0 m 900 ls [.int z3.1]) rfl ?_
  have hw : w_W G z3.2 r s H locs := hw
  refine lv_istore (lv' := [(5, .int z3.1), (4, .int i9), (0, .ref b9), (1, .ref x9), (2, .ref (g_r G)), (3, .ref o9)]) hx hb dL_law__900 hl (by decide) rfl (fun ls hl => ?_)
  refine lv_aload_n hx hb dL_law__902 rfl (lv_at hl 4 rfl) ?_
  refine lv_aload_n hx hb dL_law__903 rfl (lv_at hl 2 rfl) ?_
  refine lv_iload hx hb dL_law__904 (lv_at hl 1 rfl) ?_
  refine lv_iconst (v := 1) hx hb dL_law__906 (by decide) ?_
  refine lv_iadd hx hb dL_law__907 ?_
  refine gx_sld E hw hX hbl hbA dL_law__908 (fun v4 => ?_)
  refine lv_aload_n hx hb dL_law__909 rfl (lv_at hl 2 rfl) ?_
  refine lv_iload hx hb dL_law__910 (lv_at hl 1 rfl) ?_
  refine lv_iconst (v := 2) hx hb dL_law__912 (by decide) ?_
  refine lv_iadd hx hb dL_law__913 ?_
  refine gx_sld E hw hX hbl hbA dL_law__914 (fun v5 => ?_)
  refine W_bind fun z6 hz => ?_
  refine w_after (cells1 := c9 + 3) (slots1 := d9 + 18) (w_runV E kV_L_169 kc_X12_meet (t_R_meet l hfl G on N v4 v5 z3.2 r ((fun z => (.inl (some (.int z.1)), z3.2, z.2)) z6) (by rw [hz]; rfl)) ⟨Nat.le_of_ble_eq_true rfl, Nat.le_of_ble_eq_true rfl⟩ hw (w_recvR E hw on) rfl hl.1 rfl (Nat.le_of_ble_eq_true rfl) dL_law__915 ⟨by show c9 + 3 + 0 ≤ 601024; omega, by show d9 + 18 + 0 ≤ 7293034; omega⟩) hw rfl (by show c9 + 3 + 0 ≤ c9 + 3; omega) (by show d9 + 18 + 0 ≤ d9 + 18; omega) (fun H locs hw => ?_)
  refine W.eq (g2 := F0 m 918 ls [.int z6.1]) rfl ?_
  have hw : w_W G z3.2 z6.2 s H locs := hw
  refine lv_istore (lv' := [(6, .int z6.1), (5, .int z3.1), (4, .int i9), (0, .ref b9), (1, .ref x9), (2, .ref (g_r G)), (3, .ref o9)]) hx hb dL_law__918 hl (by decide) rfl (fun ls hl => ?_)
  refine lv_aload_n hx hb dL_law__920 rfl (lv_at hl 5 rfl) ?_
  refine W_bind fun z7 hz => ?_
  refine w_after (cells1 := c9 + 3) (slots1 := d9 + 18) (w_runV E kV_L_136 kc_X12_thrown (t_R_thrown l hfl G on z3.2 z6.2 ((fun z => (.inl (some (.int z)), z3.2, z6.2)) z7) (by rw [hz]; rfl)) ⟨Nat.le_of_ble_eq_true rfl, Nat.le_of_ble_eq_true rfl⟩ hw (w_recvR E hw on) rfl hl.1 rfl (Nat.le_of_ble_eq_true rfl) dL_law__921 ⟨by show c9 + 3 + 0 ≤ 601024; omega, by show d9 + 18 + 0 ≤ 7293034; omega⟩) hw rfl (by show c9 + 3 + 0 ≤ c9 + 3; omega) (by show d9 + 18 + 0 ≤ d9 + 18; omega) (fun H locs hw => ?_)
  refine W.eq (g2 := F0 m 924 ls [.int z7]) rfl ?_
  have hw : w_W G z3.2 z6.2 s H locs := hw
  refine lv_iload hx hb dL_law__924 (lv_at hl 1 rfl) ?_
  refine cx_icmp_eq (tgt := 931) E dL_law__926 (by decide) (fun _ => ?_) (fun _ => ?_)
  · refine lv_iload hx hb dL_law__931 (lv_at hl 1 rfl) ?_
    refine cx_if_ne (tgt := 948) E dL_law__933 (by decide) (fun _ => ?_) (fun _ => ?_)
    · refine lv_goto (tgt := 2675) hx hb dL_law__948 (by decide) ?_
      refine W.widen (k := c9 + 8) (n := d9 + 900) (by omega) (by omega) ?_
      exact hk z3.2 z6.2 _ _ _ hw (lv_sub hl [2, 3, 4, 5, 6] rfl)
    · refine lv_aload_n hx hb dL_law__936 rfl (lv_at hl 6 rfl) ?_
      refine lv_iconst (v := 0) hx hb dL_law__937 (by decide) ?_
      refine gx_lald E hw dL_law__938 (fun v8 _ => ?_)
      refine lv_iload hx hb dL_law__939 (lv_at hl 0 rfl) ?_
      refine lv_i2l (v := Int32.toInt64 z6.1) hx hb dL_law__941 rfl ?_
      refine W.lcmp hx hb dL_law__942 ?_
      refine cx_if_eq (tgt := 948) E dL_law__943 (by decide) (fun _ => ?_) (fun _ => ?_)
      · refine lv_goto (tgt := 2675) hx hb dL_law__948 (by decide) ?_
        refine W.widen (k := c9 + 8) (n := d9 + 900) (by omega) (by omega) ?_
        exact hk z3.2 z6.2 _ _ _ hw (lv_sub hl [2, 3, 4, 5, 6] rfl)
      · refine lv_iconst (v := 0) hx hb dL_law__946 (by decide) ?_
        exact W_none
  · refine lv_iconst (v := 0) hx hb dL_law__929 (by decide) ?_
    exact W_none
set_option maxHeartbeats 4000000 in
set_option maxRecDepth 100000 in
theorem t_L_c12 {p : Program} {l : Launch} {e : Env} {s : State} {m : MethodId} {args : Array Value} {below : List Frame} {meth : Method} {c : Code} {H : Heap} {locs : List Loc} {ls : Array Slot} {G : wG} {M : Mem} {r : Rho} {xs : Nat → Int32} {L b9 x9 o9 c9 d9 N : Nat} {i9 : Int32} {kk : Mem → Rho → Option (Mem × Rho)} (hfl : l.stackTraces = false) (on : g_on G = true) (E : wE G p l s m args meth c cL_law_ "CheekTownLaw" 7) (hX : va_X b9 L xs s s.heap) (hbl : b9 < s.heap.size) (hbA : ¬ g_A G b9) (hw : w_W G M r s H locs) (hl : lv_has ls 7 [(4, .int i9), (0, .ref b9), (1, .ref x9), (2, .ref (g_r G)), (3, .ref o9)]) (hc : c9 + 8 ≤ 601024) (hd : d9 + 900 ≤ 7293034) (hk : ∀ (M : Mem) (r : Rho) (H : Heap) (locs : List Loc) (ls : Array Slot), w_W G M r s H locs → lv_has ls 7 [(4, .int i9), (0, .ref b9), (1, .ref x9), (2, .ref (g_r G)), (3, .ref o9)] → W p l e room_1 s m args below meth c H locs (c9 + 8) (d9 + 900) (PQ G below args s 601024 7293034 (fun z : Mem × Rho => (.inl (some (.int 1)), z)) (kk M r)) (F0 m 2675 ls [])) : W p l e room_1 s m args below meth c H locs c9 d9 (PQ G below args s 601024 7293034 (fun z : Mem × Rho => (.inl (some (.int 1)), z)) (f_L_c12 N xs L x9 o9 i9 M r kk)) (F0 m 951 ls []) := by
  obtain ⟨hx, hb, hts, hown, hml, hTT, -⟩ := id E
  unfold f_L_c12
  refine lv_aload_n hx hb dL_law__951 rfl (lv_at hl 2 rfl) ?_
  refine lv_aload_n hx hb dL_law__952 rfl (lv_at hl 1 rfl) ?_
  refine lv_iload hx hb dL_law__953 (lv_at hl 0 rfl) ?_
  refine lv_iconst (v := 1) hx hb dL_law__955 (by decide) ?_
  refine lv_iadd hx hb dL_law__956 ?_
  refine gx_sld E hw hX hbl hbA dL_law__957 (fun v1 => ?_)
  refine lv_aload_n hx hb dL_law__958 rfl (lv_at hl 4 rfl) ?_
  refine W_bind fun z2 hz => ?_
  refine w_after (cells1 := c9 + 1) (slots1 := d9 + 6) (w_runSH E kS_L_170 kcH_L_rounds (t_L_rounds l hfl G N x9 v1 o9 M r ((fun z => (.inl (some (.int z.1)), z.2, r)) z2) (by rw [hz]; rfl)) ⟨Nat.le_of_ble_eq_true rfl, Nat.le_of_ble_eq_true rfl⟩ hw rfl hl.1 rfl (Nat.le_of_ble_eq_true rfl) dL_law__959 ⟨by show c9 + 0 + 1 ≤ 601024; omega, by show d9 + 0 + 6 ≤ 7293034; omega⟩) hw rfl (by show c9 + 0 + 1 ≤ c9 + 1; omega) (by show d9 + 0 + 6 ≤ d9 + 6; omega) (fun H locs hw => ?_)
  refine W.eq (g2 := F0 m 962 ls [.int z2.1]) rfl ?_
  have hw : w_W G z2.2 r s H locs := hw
  refine lv_istore (lv' := [(5, .int z2.1), (4, .int i9), (0, .ref b9), (1, .ref x9), (2, .ref (g_r G)), (3, .ref o9)]) hx hb dL_law__962 hl (by decide) rfl (fun ls hl => ?_)
  refine lv_aload_n hx hb dL_law__964 rfl (lv_at hl 4 rfl) ?_
  refine lv_aload_n hx hb dL_law__965 rfl (lv_at hl 2 rfl) ?_
  refine lv_iload hx hb dL_law__966 (lv_at hl 1 rfl) ?_
  refine lv_iconst (v := 1) hx hb dL_law__968 (by decide) ?_
  refine lv_iadd hx hb dL_law__969 ?_
  refine gx_sld E hw hX hbl hbA dL_law__970 (fun v3 => ?_)
  refine W_bind fun z4 hz => ?_
  refine w_after (cells1 := c9 + 1) (slots1 := d9 + 6) (w_runV E kV_L_173 kc_X12_rounds (t_R_rounds l hfl G on N v3 z2.2 r ((fun z => (.inl (some (.int z.1)), z2.2, z.2)) z4) (by rw [hz]; rfl)) ⟨Nat.le_of_ble_eq_true rfl, Nat.le_of_ble_eq_true rfl⟩ hw (w_recvR E hw on) rfl hl.1 rfl (Nat.le_of_ble_eq_true rfl) dL_law__971 ⟨by show c9 + 1 + 0 ≤ 601024; omega, by show d9 + 6 + 0 ≤ 7293034; omega⟩) hw rfl (by show c9 + 1 + 0 ≤ c9 + 1; omega) (by show d9 + 6 + 0 ≤ d9 + 6; omega) (fun H locs hw => ?_)
  refine W.eq (g2 := F0 m 974 ls [.int z4.1]) rfl ?_
  have hw : w_W G z2.2 z4.2 s H locs := hw
  refine lv_istore (lv' := [(6, .int z4.1), (5, .int z2.1), (4, .int i9), (0, .ref b9), (1, .ref x9), (2, .ref (g_r G)), (3, .ref o9)]) hx hb dL_law__974 hl (by decide) rfl (fun ls hl => ?_)
  refine lv_aload_n hx hb dL_law__976 rfl (lv_at hl 5 rfl) ?_
  refine W_bind fun z5 hz => ?_
  refine w_after (cells1 := c9 + 1) (slots1 := d9 + 6) (w_runV E kV_L_136 kc_X12_thrown (t_R_thrown l hfl G on z2.2 z4.2 ((fun z => (.inl (some (.int z)), z2.2, z4.2)) z5) (by rw [hz]; rfl)) ⟨Nat.le_of_ble_eq_true rfl, Nat.le_of_ble_eq_true rfl⟩ hw (w_recvR E hw on) rfl hl.1 rfl (Nat.le_of_ble_eq_true rfl) dL_law__977 ⟨by show c9 + 1 + 0 ≤ 601024; omega, by show d9 + 6 + 0 ≤ 7293034; omega⟩) hw rfl (by show c9 + 1 + 0 ≤ c9 + 1; omega) (by show d9 + 6 + 0 ≤ d9 + 6; omega) (fun H locs hw => ?_)
  refine W.eq (g2 := F0 m 980 ls [.int z5]) rfl ?_
  have hw : w_W G z2.2 z4.2 s H locs := hw
  refine lv_iload hx hb dL_law__980 (lv_at hl 1 rfl) ?_
  refine cx_icmp_eq (tgt := 987) E dL_law__982 (by decide) (fun _ => ?_) (fun _ => ?_)
  · refine lv_iload hx hb dL_law__987 (lv_at hl 1 rfl) ?_
    refine cx_if_ne (tgt := 1004) E dL_law__989 (by decide) (fun _ => ?_) (fun _ => ?_)
    · refine lv_goto (tgt := 2675) hx hb dL_law__1004 (by decide) ?_
      refine W.widen (k := c9 + 8) (n := d9 + 900) (by omega) (by omega) ?_
      exact hk z2.2 z4.2 _ _ _ hw (lv_sub hl [2, 3, 4, 5, 6] rfl)
    · refine lv_aload_n hx hb dL_law__992 rfl (lv_at hl 6 rfl) ?_
      refine lv_iconst (v := 0) hx hb dL_law__993 (by decide) ?_
      refine gx_lald E hw dL_law__994 (fun v6 _ => ?_)
      refine lv_iload hx hb dL_law__995 (lv_at hl 0 rfl) ?_
      refine lv_i2l (v := Int32.toInt64 z4.1) hx hb dL_law__997 rfl ?_
      refine W.lcmp hx hb dL_law__998 ?_
      refine cx_if_eq (tgt := 1004) E dL_law__999 (by decide) (fun _ => ?_) (fun _ => ?_)
      · refine lv_goto (tgt := 2675) hx hb dL_law__1004 (by decide) ?_
        refine W.widen (k := c9 + 8) (n := d9 + 900) (by omega) (by omega) ?_
        exact hk z2.2 z4.2 _ _ _ hw (lv_sub hl [2, 3, 4, 5, 6] rfl)
      · refine lv_iconst (v := 0) hx hb dL_law__1002 (by decide) ?_
        exact W_none
  · refine lv_iconst (v := 0) hx hb dL_law__985 (by decide) ?_
    exact W_none
set_option maxHeartbeats 4000000 in
set_option maxRecDepth 100000 in
theorem t_L_c13 {p : Program} {l : Launch} {e : Env} {s : State} {m : MethodId} {args : Array Value} {below : List Frame} {meth : Method} {c : Code} {H : Heap} {locs : List Loc} {ls : Array Slot} {G : wG} {M : Mem} {r : Rho} {xs : Nat → Int32} {L b9 x9 o9 c9 d9 N : Nat} {i9 : Int32} {kk : Mem → Rho → Option (Mem × Rho)} (hfl : l.stackTraces = false) (on : g_on G = true) (E : wE G p l s m args meth c cL_law_ "CheekTownLaw" 7) (hX : va_X b9 L xs s s.heap) (hbl : b9 < s.heap.size) (hbA : ¬ g_A G b9) (hw : w_W G M r s H locs) (hl : lv_has ls 7 [(4, .int i9), (0, .ref b9), (1, .ref x9), (2, .ref (g_r G)), (3, .ref o9)]) (hc : c9 + 8 ≤ 601024) (hd : d9 + 900 ≤ 7293034) (hk : ∀ (M : Mem) (r : Rho) (H : Heap) (locs : List Loc) (ls : Array Slot), w_W G M r s H locs → lv_has ls 7 [(4, .int i9), (0, .ref b9), (1, .ref x9), (2, .ref (g_r G)), (3, .ref o9)] → W p l e room_1 s m args below meth c H locs (c9 + 8) (d9 + 900) (PQ G below args s 601024 7293034 (fun z : Mem × Rho => (.inl (some (.int 1)), z)) (kk M r)) (F0 m 2675 ls [])) : W p l e room_1 s m args below meth c H locs c9 d9 (PQ G below args s 601024 7293034 (fun z : Mem × Rho => (.inl (some (.int 1)), z)) (f_L_c13 N xs L x9 o9 i9 M r kk)) (F0 m 1007 ls []) := by
  obtain ⟨hx, hb, hts, hown, hml, hTT, -⟩ := id E
  unfold f_L_c13
  refine lv_aload_n hx hb dL_law__1007 rfl (lv_at hl 2 rfl) ?_
  refine lv_aload_n hx hb dL_law__1008 rfl (lv_at hl 1 rfl) ?_
  refine lv_iload hx hb dL_law__1009 (lv_at hl 0 rfl) ?_
  refine lv_iconst (v := 1) hx hb dL_law__1011 (by decide) ?_
  refine lv_iadd hx hb dL_law__1012 ?_
  refine gx_sld E hw hX hbl hbA dL_law__1013 (fun v1 => ?_)
  refine lv_aload_n hx hb dL_law__1014 rfl (lv_at hl 1 rfl) ?_
  refine lv_iload hx hb dL_law__1015 (lv_at hl 0 rfl) ?_
  refine lv_iconst (v := 2) hx hb dL_law__1017 (by decide) ?_
  refine lv_iadd hx hb dL_law__1018 ?_
  refine gx_sld E hw hX hbl hbA dL_law__1019 (fun v2 => ?_)
  refine lv_aload_n hx hb dL_law__1020 rfl (lv_at hl 4 rfl) ?_
  refine W_bind fun z3 hz => ?_
  refine w_after (cells1 := c9 + 2) (slots1 := d9 + 12) (w_runSH E kS_L_174 kcH_L_own (t_L_own l hfl G N x9 v1 v2 o9 M r ((fun z => (.inl (some (.int z.1)), z.2, r)) z3) (by rw [hz]; rfl)) ⟨Nat.le_of_ble_eq_true rfl, Nat.le_of_ble_eq_true rfl⟩ hw rfl hl.1 rfl (Nat.le_of_ble_eq_true rfl) dL_law__1021 ⟨by show c9 + 0 + 2 ≤ 601024; omega, by show d9 + 0 + 12 ≤ 7293034; omega⟩) hw rfl (by show c9 + 0 + 2 ≤ c9 + 2; omega) (by show d9 + 0 + 12 ≤ d9 + 12; omega) (fun H locs hw => ?_)
  refine W.eq (g2 := F0 m 1024 ls [.int z3.1]) rfl ?_
  have hw : w_W G z3.2 r s H locs := hw
  refine lv_istore (lv' := [(5, .int z3.1), (4, .int i9), (0, .ref b9), (1, .ref x9), (2, .ref (g_r G)), (3, .ref o9)]) hx hb dL_law__1024 hl (by decide) rfl (fun ls hl => ?_)
  refine lv_aload_n hx hb dL_law__1026 rfl (lv_at hl 4 rfl) ?_
  refine lv_aload_n hx hb dL_law__1027 rfl (lv_at hl 2 rfl) ?_
  refine lv_iload hx hb dL_law__1028 (lv_at hl 1 rfl) ?_
  refine lv_iconst (v := 1) hx hb dL_law__1030 (by decide) ?_
  refine lv_iadd hx hb dL_law__1031 ?_
  refine gx_sld E hw hX hbl hbA dL_law__1032 (fun v4 => ?_)
  refine lv_aload_n hx hb dL_law__1033 rfl (lv_at hl 2 rfl) ?_
  refine lv_iload hx hb dL_law__1034 (lv_at hl 1 rfl) ?_
  refine lv_iconst (v := 2) hx hb dL_law__1036 (by decide) ?_
  refine lv_iadd hx hb dL_law__1037 ?_
  refine gx_sld E hw hX hbl hbA dL_law__1038 (fun v5 => ?_)
  refine W_bind fun z6 hz => ?_
  refine w_after (cells1 := c9 + 2) (slots1 := d9 + 12) (w_runV E kV_L_176 kc_X12_own (t_R_own l hfl G on N v4 v5 z3.2 r ((fun z => (.inl (some (.int z.1)), z3.2, z.2)) z6) (by rw [hz]; rfl)) ⟨Nat.le_of_ble_eq_true rfl, Nat.le_of_ble_eq_true rfl⟩ hw (w_recvR E hw on) rfl hl.1 rfl (Nat.le_of_ble_eq_true rfl) dL_law__1039 ⟨by show c9 + 2 + 0 ≤ 601024; omega, by show d9 + 12 + 0 ≤ 7293034; omega⟩) hw rfl (by show c9 + 2 + 0 ≤ c9 + 2; omega) (by show d9 + 12 + 0 ≤ d9 + 12; omega) (fun H locs hw => ?_)
  refine W.eq (g2 := F0 m 1042 ls [.int z6.1]) rfl ?_
  have hw : w_W G z3.2 z6.2 s H locs := hw
  refine lv_istore (lv' := [(6, .int z6.1), (5, .int z3.1), (4, .int i9), (0, .ref b9), (1, .ref x9), (2, .ref (g_r G)), (3, .ref o9)]) hx hb dL_law__1042 hl (by decide) rfl (fun ls hl => ?_)
  refine lv_aload_n hx hb dL_law__1044 rfl (lv_at hl 5 rfl) ?_
  refine W_bind fun z7 hz => ?_
  refine w_after (cells1 := c9 + 2) (slots1 := d9 + 12) (w_runV E kV_L_136 kc_X12_thrown (t_R_thrown l hfl G on z3.2 z6.2 ((fun z => (.inl (some (.int z)), z3.2, z6.2)) z7) (by rw [hz]; rfl)) ⟨Nat.le_of_ble_eq_true rfl, Nat.le_of_ble_eq_true rfl⟩ hw (w_recvR E hw on) rfl hl.1 rfl (Nat.le_of_ble_eq_true rfl) dL_law__1045 ⟨by show c9 + 2 + 0 ≤ 601024; omega, by show d9 + 12 + 0 ≤ 7293034; omega⟩) hw rfl (by show c9 + 2 + 0 ≤ c9 + 2; omega) (by show d9 + 12 + 0 ≤ d9 + 12; omega) (fun H locs hw => ?_)
  refine W.eq (g2 := F0 m 1048 ls [.int z7]) rfl ?_
  have hw : w_W G z3.2 z6.2 s H locs := hw
  refine lv_iload hx hb dL_law__1048 (lv_at hl 1 rfl) ?_
  refine cx_icmp_eq (tgt := 1055) E dL_law__1050 (by decide) (fun _ => ?_) (fun _ => ?_)
  · refine lv_iload hx hb dL_law__1055 (lv_at hl 1 rfl) ?_
    refine cx_if_ne (tgt := 1072) E dL_law__1057 (by decide) (fun _ => ?_) (fun _ => ?_)
    · refine lv_goto (tgt := 2675) hx hb dL_law__1072 (by decide) ?_
      refine W.widen (k := c9 + 8) (n := d9 + 900) (by omega) (by omega) ?_
      exact hk z3.2 z6.2 _ _ _ hw (lv_sub hl [2, 3, 4, 5, 6] rfl)
    · refine lv_aload_n hx hb dL_law__1060 rfl (lv_at hl 6 rfl) ?_
      refine lv_iconst (v := 0) hx hb dL_law__1061 (by decide) ?_
      refine gx_lald E hw dL_law__1062 (fun v8 _ => ?_)
      refine lv_iload hx hb dL_law__1063 (lv_at hl 0 rfl) ?_
      refine lv_i2l (v := Int32.toInt64 z6.1) hx hb dL_law__1065 rfl ?_
      refine W.lcmp hx hb dL_law__1066 ?_
      refine cx_if_eq (tgt := 1072) E dL_law__1067 (by decide) (fun _ => ?_) (fun _ => ?_)
      · refine lv_goto (tgt := 2675) hx hb dL_law__1072 (by decide) ?_
        refine W.widen (k := c9 + 8) (n := d9 + 900) (by omega) (by omega) ?_
        exact hk z3.2 z6.2 _ _ _ hw (lv_sub hl [2, 3, 4, 5, 6] rfl)
      · refine lv_iconst (v := 0) hx hb dL_law__1070 (by decide) ?_
        exact W_none
  · refine lv_iconst (v := 0) hx hb dL_law__1053 (by decide) ?_
    exact W_none
set_option maxHeartbeats 4000000 in
set_option maxRecDepth 100000 in
theorem t_L_c14 {p : Program} {l : Launch} {e : Env} {s : State} {m : MethodId} {args : Array Value} {below : List Frame} {meth : Method} {c : Code} {H : Heap} {locs : List Loc} {ls : Array Slot} {G : wG} {M : Mem} {r : Rho} {xs : Nat → Int32} {L b9 x9 o9 c9 d9 N : Nat} {i9 : Int32} {kk : Mem → Rho → Option (Mem × Rho)} (hfl : l.stackTraces = false) (on : g_on G = true) (E : wE G p l s m args meth c cL_law_ "CheekTownLaw" 7) (hX : va_X b9 L xs s s.heap) (hbl : b9 < s.heap.size) (hbA : ¬ g_A G b9) (hw : w_W G M r s H locs) (hl : lv_has ls 7 [(4, .int i9), (0, .ref b9), (1, .ref x9), (2, .ref (g_r G)), (3, .ref o9)]) (hc : c9 + 8 ≤ 601024) (hd : d9 + 900 ≤ 7293034) (hk : ∀ (M : Mem) (r : Rho) (H : Heap) (locs : List Loc) (ls : Array Slot), w_W G M r s H locs → lv_has ls 7 [(4, .int i9), (0, .ref b9), (1, .ref x9), (2, .ref (g_r G)), (3, .ref o9)] → W p l e room_1 s m args below meth c H locs (c9 + 8) (d9 + 900) (PQ G below args s 601024 7293034 (fun z : Mem × Rho => (.inl (some (.int 1)), z)) (kk M r)) (F0 m 2675 ls [])) : W p l e room_1 s m args below meth c H locs c9 d9 (PQ G below args s 601024 7293034 (fun z : Mem × Rho => (.inl (some (.int 1)), z)) (f_L_c14 N xs L x9 o9 i9 M r kk)) (F0 m 1075 ls []) := by
  obtain ⟨hx, hb, hts, hown, hml, hTT, -⟩ := id E
  unfold f_L_c14
  refine lv_aload_n hx hb dL_law__1075 rfl (lv_at hl 2 rfl) ?_
  refine lv_aload_n hx hb dL_law__1076 rfl (lv_at hl 1 rfl) ?_
  refine lv_iload hx hb dL_law__1077 (lv_at hl 0 rfl) ?_
  refine lv_iconst (v := 1) hx hb dL_law__1079 (by decide) ?_
  refine lv_iadd hx hb dL_law__1080 ?_
  refine gx_sld E hw hX hbl hbA dL_law__1081 (fun v1 => ?_)
  refine lv_aload_n hx hb dL_law__1082 rfl (lv_at hl 1 rfl) ?_
  refine lv_iload hx hb dL_law__1083 (lv_at hl 0 rfl) ?_
  refine lv_iconst (v := 2) hx hb dL_law__1085 (by decide) ?_
  refine lv_iadd hx hb dL_law__1086 ?_
  refine gx_sld E hw hX hbl hbA dL_law__1087 (fun v2 => ?_)
  refine gx_flag E dL_law__1088 dL_law__1091 dL_law__1092 dL_law__1095 ?_
  refine W.eq (g2 := F0 m 1096 ls [.int (bz v2), .int v1, .ref x9]) rfl ?_
  refine lv_aload_n hx hb dL_law__1096 rfl (lv_at hl 4 rfl) ?_
  refine W_bind fun z3 hz => ?_
  refine w_after (cells1 := c9 + 1) (slots1 := d9 + 6) (w_runSH E kS_L_177 kcH_L_cold (t_L_cold l hfl G N x9 v1 (bz v2) o9 M r ((fun z => (.inl (some (.int z.1)), z.2, r)) z3) (by rw [hz]; rfl)) ⟨Nat.le_of_ble_eq_true rfl, Nat.le_of_ble_eq_true rfl⟩ hw rfl hl.1 rfl (Nat.le_of_ble_eq_true rfl) dL_law__1097 ⟨by show c9 + 0 + 1 ≤ 601024; omega, by show d9 + 0 + 6 ≤ 7293034; omega⟩) hw rfl (by show c9 + 0 + 1 ≤ c9 + 1; omega) (by show d9 + 0 + 6 ≤ d9 + 6; omega) (fun H locs hw => ?_)
  refine W.eq (g2 := F0 m 1100 ls [.int z3.1]) rfl ?_
  have hw : w_W G z3.2 r s H locs := hw
  refine lv_istore (lv' := [(5, .int z3.1), (4, .int i9), (0, .ref b9), (1, .ref x9), (2, .ref (g_r G)), (3, .ref o9)]) hx hb dL_law__1100 hl (by decide) rfl (fun ls hl => ?_)
  refine lv_aload_n hx hb dL_law__1102 rfl (lv_at hl 4 rfl) ?_
  refine lv_aload_n hx hb dL_law__1103 rfl (lv_at hl 2 rfl) ?_
  refine lv_iload hx hb dL_law__1104 (lv_at hl 1 rfl) ?_
  refine lv_iconst (v := 1) hx hb dL_law__1106 (by decide) ?_
  refine lv_iadd hx hb dL_law__1107 ?_
  refine gx_sld E hw hX hbl hbA dL_law__1108 (fun v4 => ?_)
  refine lv_aload_n hx hb dL_law__1109 rfl (lv_at hl 2 rfl) ?_
  refine lv_iload hx hb dL_law__1110 (lv_at hl 1 rfl) ?_
  refine lv_iconst (v := 2) hx hb dL_law__1112 (by decide) ?_
  refine lv_iadd hx hb dL_law__1113 ?_
  refine gx_sld E hw hX hbl hbA dL_law__1114 (fun v5 => ?_)
  refine gx_flag E dL_law__1115 dL_law__1118 dL_law__1119 dL_law__1122 ?_
  refine W.eq (g2 := F0 m 1123 ls [.int (bz v5), .int v4, .ref (g_r G)]) rfl ?_
  refine W_bind fun z6 hz => ?_
  refine w_after (cells1 := c9 + 1) (slots1 := d9 + 6) (w_runV E kV_L_179 kc_X12_cold (t_R_cold l hfl G on N v4 (bz v5) z3.2 r ((fun z => (.inl (some (.int z.1)), z3.2, z.2)) z6) (by rw [hz]; rfl)) ⟨Nat.le_of_ble_eq_true rfl, Nat.le_of_ble_eq_true rfl⟩ hw (w_recvR E hw on) rfl hl.1 rfl (Nat.le_of_ble_eq_true rfl) dL_law__1123 ⟨by show c9 + 1 + 0 ≤ 601024; omega, by show d9 + 6 + 0 ≤ 7293034; omega⟩) hw rfl (by show c9 + 1 + 0 ≤ c9 + 1; omega) (by show d9 + 6 + 0 ≤ d9 + 6; omega) (fun H locs hw => ?_)
  refine W.eq (g2 := F0 m 1126 ls [.int z6.1]) rfl ?_
  have hw : w_W G z3.2 z6.2 s H locs := hw
  refine lv_istore (lv' := [(6, .int z6.1), (5, .int z3.1), (4, .int i9), (0, .ref b9), (1, .ref x9), (2, .ref (g_r G)), (3, .ref o9)]) hx hb dL_law__1126 hl (by decide) rfl (fun ls hl => ?_)
  refine lv_aload_n hx hb dL_law__1128 rfl (lv_at hl 5 rfl) ?_
  refine W_bind fun z7 hz => ?_
  refine w_after (cells1 := c9 + 1) (slots1 := d9 + 6) (w_runV E kV_L_136 kc_X12_thrown (t_R_thrown l hfl G on z3.2 z6.2 ((fun z => (.inl (some (.int z)), z3.2, z6.2)) z7) (by rw [hz]; rfl)) ⟨Nat.le_of_ble_eq_true rfl, Nat.le_of_ble_eq_true rfl⟩ hw (w_recvR E hw on) rfl hl.1 rfl (Nat.le_of_ble_eq_true rfl) dL_law__1129 ⟨by show c9 + 1 + 0 ≤ 601024; omega, by show d9 + 6 + 0 ≤ 7293034; omega⟩) hw rfl (by show c9 + 1 + 0 ≤ c9 + 1; omega) (by show d9 + 6 + 0 ≤ d9 + 6; omega) (fun H locs hw => ?_)
  refine W.eq (g2 := F0 m 1132 ls [.int z7]) rfl ?_
  have hw : w_W G z3.2 z6.2 s H locs := hw
  refine lv_iload hx hb dL_law__1132 (lv_at hl 1 rfl) ?_
  refine cx_icmp_eq (tgt := 1139) E dL_law__1134 (by decide) (fun _ => ?_) (fun _ => ?_)
  · refine lv_iload hx hb dL_law__1139 (lv_at hl 1 rfl) ?_
    refine cx_if_ne (tgt := 1163) E dL_law__1141 (by decide) (fun _ => ?_) (fun _ => ?_)
    · refine lv_goto (tgt := 2675) hx hb dL_law__1163 (by decide) ?_
      refine W.widen (k := c9 + 8) (n := d9 + 900) (by omega) (by omega) ?_
      exact hk z3.2 z6.2 _ _ _ hw (lv_sub hl [2, 3, 4, 5, 6] rfl)
    · refine lv_aload_n hx hb dL_law__1144 rfl (lv_at hl 6 rfl) ?_
      refine lv_iconst (v := 0) hx hb dL_law__1145 (by decide) ?_
      refine gx_lald E hw dL_law__1146 (fun v8 _ => ?_)
      refine lv_iload hx hb dL_law__1147 (lv_at hl 0 rfl) ?_
      refine gx_flagL E dL_law__1149 dL_law__1152 dL_law__1153 dL_law__1156 ?_
      refine W.eq (g2 := F0 m 1157 ls [.long (bzL z6.1), .long v8]) rfl ?_
      refine W.lcmp hx hb dL_law__1157 ?_
      refine cx_if_eq (tgt := 1163) E dL_law__1158 (by decide) (fun _ => ?_) (fun _ => ?_)
      · refine lv_goto (tgt := 2675) hx hb dL_law__1163 (by decide) ?_
        refine W.widen (k := c9 + 8) (n := d9 + 900) (by omega) (by omega) ?_
        exact hk z3.2 z6.2 _ _ _ hw (lv_sub hl [2, 3, 4, 5, 6] rfl)
      · refine lv_iconst (v := 0) hx hb dL_law__1161 (by decide) ?_
        exact W_none
  · refine lv_iconst (v := 0) hx hb dL_law__1137 (by decide) ?_
    exact W_none
