set_option maxHeartbeats 4000000 in
set_option maxRecDepth 100000 in
theorem t_L_c15 {p : Program} {l : Launch} {e : Env} {s : State} {m : MethodId} {args : Array Value} {below : List Frame} {meth : Method} {c : Code} {H : Heap} {locs : List Loc} {ls : Array Slot} {G : wG} {M : Mem} {r : Rho} {xs : Nat → Int32} {L b9 x9 o9 c9 d9 N : Nat} {i9 : Int32} {kk : Mem → Rho → Option (Mem × Rho)} (hfl : l.stackTraces = false) (on : g_on G = true) (E : wE G p l s m args meth c cL_law_ "CheekTownLaw" 7) (hX : va_X b9 L xs s s.heap) (hbl : b9 < s.heap.size) (hbA : ¬ g_A G b9) (hw : w_W G M r s H locs) (hl : lv_has ls 7 [(4, .int i9), (0, .ref b9), (1, .ref x9), (2, .ref (g_r G)), (3, .ref o9)]) (hc : c9 + 8 ≤ 601024) (hd : d9 + 900 ≤ 7293034) (hk : ∀ (M : Mem) (r : Rho) (H : Heap) (locs : List Loc) (ls : Array Slot), w_W G M r s H locs → lv_has ls 7 [(4, .int i9), (0, .ref b9), (1, .ref x9), (2, .ref (g_r G)), (3, .ref o9)] → W p l e room_1 s m args below meth c H locs (c9 + 8) (d9 + 900) (PQ G below args s 601024 7293034 (fun z : Mem × Rho => (.inl (some (.int 1)), z)) (kk M r)) (F0 m 2675 ls [])) : W p l e room_1 s m args below meth c H locs c9 d9 (PQ G below args s 601024 7293034 (fun z : Mem × Rho => (.inl (some (.int 1)), z)) (f_L_c15 N xs L x9 o9 i9 M r kk)) (F0 m 1166 ls []) := by
  obtain ⟨hx, hb, hts, hown, hml, hTT, -⟩ := id E
  unfold f_L_c15
  refine lv_aload_n hx hb dL_law__1166 rfl (lv_at hl 2 rfl) ?_
  refine lv_aload_n hx hb dL_law__1167 rfl (lv_at hl 1 rfl) ?_
  refine lv_iload hx hb dL_law__1168 (lv_at hl 0 rfl) ?_
  refine lv_iconst (v := 1) hx hb dL_law__1170 (by decide) ?_
  refine lv_iadd hx hb dL_law__1171 ?_
  refine gx_sld E hw hX hbl hbA dL_law__1172 (fun v1 => ?_)
  refine lv_aload_n hx hb dL_law__1173 rfl (lv_at hl 1 rfl) ?_
  refine lv_iload hx hb dL_law__1174 (lv_at hl 0 rfl) ?_
  refine lv_iconst (v := 2) hx hb dL_law__1176 (by decide) ?_
  refine lv_iadd hx hb dL_law__1177 ?_
  refine gx_sld E hw hX hbl hbA dL_law__1178 (fun v2 => ?_)
  refine lv_aload_n hx hb dL_law__1179 rfl (lv_at hl 4 rfl) ?_
  refine W_bind fun z3 hz => ?_
  refine w_after (cells1 := c9 + 4) (slots1 := d9 + 24) (w_runSH E kS_L_180 kcH_L_ties (t_L_ties l hfl G N x9 v1 v2 o9 M r ((fun z => (.inl (some (.int z.1)), z.2, r)) z3) (by rw [hz]; rfl)) ⟨Nat.le_of_ble_eq_true rfl, Nat.le_of_ble_eq_true rfl⟩ hw rfl hl.1 rfl (Nat.le_of_ble_eq_true rfl) dL_law__1180 ⟨by show c9 + 0 + 4 ≤ 601024; omega, by show d9 + 0 + 24 ≤ 7293034; omega⟩) hw rfl (by show c9 + 0 + 4 ≤ c9 + 4; omega) (by show d9 + 0 + 24 ≤ d9 + 24; omega) (fun H locs hw => ?_)
  refine W.eq (g2 := F0 m 1183 ls [.int z3.1]) rfl ?_
  have hw : w_W G z3.2 r s H locs := hw
  refine lv_istore (lv' := [(5, .int z3.1), (4, .int i9), (0, .ref b9), (1, .ref x9), (2, .ref (g_r G)), (3, .ref o9)]) hx hb dL_law__1183 hl (by decide) rfl (fun ls hl => ?_)
  refine lv_aload_n hx hb dL_law__1185 rfl (lv_at hl 4 rfl) ?_
  refine lv_aload_n hx hb dL_law__1186 rfl (lv_at hl 2 rfl) ?_
  refine lv_iload hx hb dL_law__1187 (lv_at hl 1 rfl) ?_
  refine lv_iconst (v := 1) hx hb dL_law__1189 (by decide) ?_
  refine lv_iadd hx hb dL_law__1190 ?_
  refine gx_sld E hw hX hbl hbA dL_law__1191 (fun v4 => ?_)
  refine lv_aload_n hx hb dL_law__1192 rfl (lv_at hl 2 rfl) ?_
  refine lv_iload hx hb dL_law__1193 (lv_at hl 1 rfl) ?_
  refine lv_iconst (v := 2) hx hb dL_law__1195 (by decide) ?_
  refine lv_iadd hx hb dL_law__1196 ?_
  refine gx_sld E hw hX hbl hbA dL_law__1197 (fun v5 => ?_)
  refine W_bind fun z6 hz => ?_
  refine w_after (cells1 := c9 + 4) (slots1 := d9 + 24) (w_runV E kV_L_182 kc_X12_ties (t_R_ties l hfl G on N v4 v5 z3.2 r ((fun z => (.inl (some (.int z.1)), z3.2, z.2)) z6) (by rw [hz]; rfl)) ⟨Nat.le_of_ble_eq_true rfl, Nat.le_of_ble_eq_true rfl⟩ hw (w_recvR E hw on) rfl hl.1 rfl (Nat.le_of_ble_eq_true rfl) dL_law__1198 ⟨by show c9 + 4 + 0 ≤ 601024; omega, by show d9 + 24 + 0 ≤ 7293034; omega⟩) hw rfl (by show c9 + 4 + 0 ≤ c9 + 4; omega) (by show d9 + 24 + 0 ≤ d9 + 24; omega) (fun H locs hw => ?_)
  refine W.eq (g2 := F0 m 1201 ls [.int z6.1]) rfl ?_
  have hw : w_W G z3.2 z6.2 s H locs := hw
  refine lv_istore (lv' := [(6, .int z6.1), (5, .int z3.1), (4, .int i9), (0, .ref b9), (1, .ref x9), (2, .ref (g_r G)), (3, .ref o9)]) hx hb dL_law__1201 hl (by decide) rfl (fun ls hl => ?_)
  refine lv_aload_n hx hb dL_law__1203 rfl (lv_at hl 5 rfl) ?_
  refine W_bind fun z7 hz => ?_
  refine w_after (cells1 := c9 + 4) (slots1 := d9 + 24) (w_runV E kV_L_136 kc_X12_thrown (t_R_thrown l hfl G on z3.2 z6.2 ((fun z => (.inl (some (.int z)), z3.2, z6.2)) z7) (by rw [hz]; rfl)) ⟨Nat.le_of_ble_eq_true rfl, Nat.le_of_ble_eq_true rfl⟩ hw (w_recvR E hw on) rfl hl.1 rfl (Nat.le_of_ble_eq_true rfl) dL_law__1204 ⟨by show c9 + 4 + 0 ≤ 601024; omega, by show d9 + 24 + 0 ≤ 7293034; omega⟩) hw rfl (by show c9 + 4 + 0 ≤ c9 + 4; omega) (by show d9 + 24 + 0 ≤ d9 + 24; omega) (fun H locs hw => ?_)
  refine W.eq (g2 := F0 m 1207 ls [.int z7]) rfl ?_
  have hw : w_W G z3.2 z6.2 s H locs := hw
  refine lv_iload hx hb dL_law__1207 (lv_at hl 1 rfl) ?_
  refine cx_icmp_eq (tgt := 1214) E dL_law__1209 (by decide) (fun _ => ?_) (fun _ => ?_)
  · refine lv_iload hx hb dL_law__1214 (lv_at hl 1 rfl) ?_
    refine cx_if_ne (tgt := 1231) E dL_law__1216 (by decide) (fun _ => ?_) (fun _ => ?_)
    · refine lv_goto (tgt := 2675) hx hb dL_law__1231 (by decide) ?_
      refine W.widen (k := c9 + 8) (n := d9 + 900) (by omega) (by omega) ?_
      exact hk z3.2 z6.2 _ _ _ hw (lv_sub hl [2, 3, 4, 5, 6] rfl)
    · refine lv_aload_n hx hb dL_law__1219 rfl (lv_at hl 6 rfl) ?_
      refine lv_iconst (v := 0) hx hb dL_law__1220 (by decide) ?_
      refine gx_lald E hw dL_law__1221 (fun v8 _ => ?_)
      refine lv_iload hx hb dL_law__1222 (lv_at hl 0 rfl) ?_
      refine lv_i2l (v := Int32.toInt64 z6.1) hx hb dL_law__1224 rfl ?_
      refine W.lcmp hx hb dL_law__1225 ?_
      refine cx_if_eq (tgt := 1231) E dL_law__1226 (by decide) (fun _ => ?_) (fun _ => ?_)
      · refine lv_goto (tgt := 2675) hx hb dL_law__1231 (by decide) ?_
        refine W.widen (k := c9 + 8) (n := d9 + 900) (by omega) (by omega) ?_
        exact hk z3.2 z6.2 _ _ _ hw (lv_sub hl [2, 3, 4, 5, 6] rfl)
      · refine lv_iconst (v := 0) hx hb dL_law__1229 (by decide) ?_
        exact W_none
  · refine lv_iconst (v := 0) hx hb dL_law__1212 (by decide) ?_
    exact W_none
set_option maxHeartbeats 4000000 in
set_option maxRecDepth 100000 in
theorem t_L_c16 {p : Program} {l : Launch} {e : Env} {s : State} {m : MethodId} {args : Array Value} {below : List Frame} {meth : Method} {c : Code} {H : Heap} {locs : List Loc} {ls : Array Slot} {G : wG} {M : Mem} {r : Rho} {xs : Nat → Int32} {L b9 x9 o9 c9 d9 N : Nat} {i9 : Int32} {kk : Mem → Rho → Option (Mem × Rho)} (hfl : l.stackTraces = false) (on : g_on G = true) (E : wE G p l s m args meth c cL_law_ "CheekTownLaw" 7) (hX : va_X b9 L xs s s.heap) (hbl : b9 < s.heap.size) (hbA : ¬ g_A G b9) (hw : w_W G M r s H locs) (hl : lv_has ls 7 [(4, .int i9), (0, .ref b9), (1, .ref x9), (2, .ref (g_r G)), (3, .ref o9)]) (hc : c9 + 8 ≤ 601024) (hd : d9 + 900 ≤ 7293034) (hk : ∀ (M : Mem) (r : Rho) (H : Heap) (locs : List Loc) (ls : Array Slot), w_W G M r s H locs → lv_has ls 7 [(4, .int i9), (0, .ref b9), (1, .ref x9), (2, .ref (g_r G)), (3, .ref o9)] → W p l e room_1 s m args below meth c H locs (c9 + 8) (d9 + 900) (PQ G below args s 601024 7293034 (fun z : Mem × Rho => (.inl (some (.int 1)), z)) (kk M r)) (F0 m 2675 ls [])) : W p l e room_1 s m args below meth c H locs c9 d9 (PQ G below args s 601024 7293034 (fun z : Mem × Rho => (.inl (some (.int 1)), z)) (f_L_c16 N xs L x9 o9 i9 M r kk)) (F0 m 1234 ls []) := by
  obtain ⟨hx, hb, hts, hown, hml, hTT, -⟩ := id E
  unfold f_L_c16
  refine lv_aload_n hx hb dL_law__1234 rfl (lv_at hl 2 rfl) ?_
  refine lv_aload_n hx hb dL_law__1235 rfl (lv_at hl 1 rfl) ?_
  refine lv_iload hx hb dL_law__1236 (lv_at hl 0 rfl) ?_
  refine lv_iconst (v := 1) hx hb dL_law__1238 (by decide) ?_
  refine lv_iadd hx hb dL_law__1239 ?_
  refine gx_sld E hw hX hbl hbA dL_law__1240 (fun v1 => ?_)
  refine lv_aload_n hx hb dL_law__1241 rfl (lv_at hl 4 rfl) ?_
  refine W_bind fun z2 hz => ?_
  refine w_after (cells1 := c9 + 1) (slots1 := d9 + 6) (w_runSH E kS_L_183 kcH_L_cut (t_L_cut l hfl G N x9 v1 o9 M r ((fun z => (.inl (some (.int z.1)), z.2, r)) z2) (by rw [hz]; rfl)) ⟨Nat.le_of_ble_eq_true rfl, Nat.le_of_ble_eq_true rfl⟩ hw rfl hl.1 rfl (Nat.le_of_ble_eq_true rfl) dL_law__1242 ⟨by show c9 + 0 + 1 ≤ 601024; omega, by show d9 + 0 + 6 ≤ 7293034; omega⟩) hw rfl (by show c9 + 0 + 1 ≤ c9 + 1; omega) (by show d9 + 0 + 6 ≤ d9 + 6; omega) (fun H locs hw => ?_)
  refine W.eq (g2 := F0 m 1245 ls [.int z2.1]) rfl ?_
  have hw : w_W G z2.2 r s H locs := hw
  refine lv_istore (lv' := [(5, .int z2.1), (4, .int i9), (0, .ref b9), (1, .ref x9), (2, .ref (g_r G)), (3, .ref o9)]) hx hb dL_law__1245 hl (by decide) rfl (fun ls hl => ?_)
  refine lv_aload_n hx hb dL_law__1247 rfl (lv_at hl 4 rfl) ?_
  refine lv_aload_n hx hb dL_law__1248 rfl (lv_at hl 2 rfl) ?_
  refine lv_iload hx hb dL_law__1249 (lv_at hl 1 rfl) ?_
  refine lv_iconst (v := 1) hx hb dL_law__1251 (by decide) ?_
  refine lv_iadd hx hb dL_law__1252 ?_
  refine gx_sld E hw hX hbl hbA dL_law__1253 (fun v3 => ?_)
  refine W_bind fun z4 hz => ?_
  refine w_after (cells1 := c9 + 1) (slots1 := d9 + 6) (w_runV E kV_L_185 kc_X12_cut (t_R_cut l hfl G on N v3 z2.2 r ((fun z => (.inl (some (.int z.1)), z2.2, z.2)) z4) (by rw [hz]; rfl)) ⟨Nat.le_of_ble_eq_true rfl, Nat.le_of_ble_eq_true rfl⟩ hw (w_recvR E hw on) rfl hl.1 rfl (Nat.le_of_ble_eq_true rfl) dL_law__1254 ⟨by show c9 + 1 + 0 ≤ 601024; omega, by show d9 + 6 + 0 ≤ 7293034; omega⟩) hw rfl (by show c9 + 1 + 0 ≤ c9 + 1; omega) (by show d9 + 6 + 0 ≤ d9 + 6; omega) (fun H locs hw => ?_)
  refine W.eq (g2 := F0 m 1257 ls [.int z4.1]) rfl ?_
  have hw : w_W G z2.2 z4.2 s H locs := hw
  refine lv_istore (lv' := [(6, .int z4.1), (5, .int z2.1), (4, .int i9), (0, .ref b9), (1, .ref x9), (2, .ref (g_r G)), (3, .ref o9)]) hx hb dL_law__1257 hl (by decide) rfl (fun ls hl => ?_)
  refine lv_aload_n hx hb dL_law__1259 rfl (lv_at hl 5 rfl) ?_
  refine W_bind fun z5 hz => ?_
  refine w_after (cells1 := c9 + 1) (slots1 := d9 + 6) (w_runV E kV_L_136 kc_X12_thrown (t_R_thrown l hfl G on z2.2 z4.2 ((fun z => (.inl (some (.int z)), z2.2, z4.2)) z5) (by rw [hz]; rfl)) ⟨Nat.le_of_ble_eq_true rfl, Nat.le_of_ble_eq_true rfl⟩ hw (w_recvR E hw on) rfl hl.1 rfl (Nat.le_of_ble_eq_true rfl) dL_law__1260 ⟨by show c9 + 1 + 0 ≤ 601024; omega, by show d9 + 6 + 0 ≤ 7293034; omega⟩) hw rfl (by show c9 + 1 + 0 ≤ c9 + 1; omega) (by show d9 + 6 + 0 ≤ d9 + 6; omega) (fun H locs hw => ?_)
  refine W.eq (g2 := F0 m 1263 ls [.int z5]) rfl ?_
  have hw : w_W G z2.2 z4.2 s H locs := hw
  refine lv_iload hx hb dL_law__1263 (lv_at hl 1 rfl) ?_
  refine cx_icmp_eq (tgt := 1270) E dL_law__1265 (by decide) (fun _ => ?_) (fun _ => ?_)
  · refine lv_iload hx hb dL_law__1270 (lv_at hl 1 rfl) ?_
    refine cx_if_ne (tgt := 1287) E dL_law__1272 (by decide) (fun _ => ?_) (fun _ => ?_)
    · refine lv_goto (tgt := 2675) hx hb dL_law__1287 (by decide) ?_
      refine W.widen (k := c9 + 8) (n := d9 + 900) (by omega) (by omega) ?_
      exact hk z2.2 z4.2 _ _ _ hw (lv_sub hl [2, 3, 4, 5, 6] rfl)
    · refine lv_aload_n hx hb dL_law__1275 rfl (lv_at hl 6 rfl) ?_
      refine lv_iconst (v := 0) hx hb dL_law__1276 (by decide) ?_
      refine gx_lald E hw dL_law__1277 (fun v6 _ => ?_)
      refine lv_iload hx hb dL_law__1278 (lv_at hl 0 rfl) ?_
      refine lv_i2l (v := Int32.toInt64 z4.1) hx hb dL_law__1280 rfl ?_
      refine W.lcmp hx hb dL_law__1281 ?_
      refine cx_if_eq (tgt := 1287) E dL_law__1282 (by decide) (fun _ => ?_) (fun _ => ?_)
      · refine lv_goto (tgt := 2675) hx hb dL_law__1287 (by decide) ?_
        refine W.widen (k := c9 + 8) (n := d9 + 900) (by omega) (by omega) ?_
        exact hk z2.2 z4.2 _ _ _ hw (lv_sub hl [2, 3, 4, 5, 6] rfl)
      · refine lv_iconst (v := 0) hx hb dL_law__1285 (by decide) ?_
        exact W_none
  · refine lv_iconst (v := 0) hx hb dL_law__1268 (by decide) ?_
    exact W_none
set_option maxHeartbeats 4000000 in
set_option maxRecDepth 100000 in
theorem t_L_c17 {p : Program} {l : Launch} {e : Env} {s : State} {m : MethodId} {args : Array Value} {below : List Frame} {meth : Method} {c : Code} {H : Heap} {locs : List Loc} {ls : Array Slot} {G : wG} {M : Mem} {r : Rho} {xs : Nat → Int32} {L b9 x9 o9 c9 d9 N : Nat} {i9 : Int32} {kk : Mem → Rho → Option (Mem × Rho)} (hfl : l.stackTraces = false) (on : g_on G = true) (E : wE G p l s m args meth c cL_law_ "CheekTownLaw" 7) (hX : va_X b9 L xs s s.heap) (hbl : b9 < s.heap.size) (hbA : ¬ g_A G b9) (hw : w_W G M r s H locs) (hl : lv_has ls 7 [(4, .int i9), (0, .ref b9), (1, .ref x9), (2, .ref (g_r G)), (3, .ref o9)]) (hc : c9 + 8 ≤ 601024) (hd : d9 + 900 ≤ 7293034) (hk : ∀ (M : Mem) (r : Rho) (H : Heap) (locs : List Loc) (ls : Array Slot), w_W G M r s H locs → lv_has ls 7 [(4, .int i9), (0, .ref b9), (1, .ref x9), (2, .ref (g_r G)), (3, .ref o9)] → W p l e room_1 s m args below meth c H locs (c9 + 8) (d9 + 900) (PQ G below args s 601024 7293034 (fun z : Mem × Rho => (.inl (some (.int 1)), z)) (kk M r)) (F0 m 2675 ls [])) : W p l e room_1 s m args below meth c H locs c9 d9 (PQ G below args s 601024 7293034 (fun z : Mem × Rho => (.inl (some (.int 1)), z)) (f_L_c17 N xs L x9 o9 i9 M r kk)) (F0 m 1290 ls []) := by
  obtain ⟨hx, hb, hts, hown, hml, hTT, -⟩ := id E
  unfold f_L_c17
  refine lv_aload_n hx hb dL_law__1290 rfl (lv_at hl 2 rfl) ?_
  refine lv_aload_n hx hb dL_law__1291 rfl (lv_at hl 1 rfl) ?_
  refine lv_iload hx hb dL_law__1292 (lv_at hl 0 rfl) ?_
  refine lv_iconst (v := 1) hx hb dL_law__1294 (by decide) ?_
  refine lv_iadd hx hb dL_law__1295 ?_
  refine gx_sld E hw hX hbl hbA dL_law__1296 (fun v1 => ?_)
  refine lv_aload_n hx hb dL_law__1297 rfl (lv_at hl 1 rfl) ?_
  refine lv_iload hx hb dL_law__1298 (lv_at hl 0 rfl) ?_
  refine lv_iconst (v := 2) hx hb dL_law__1300 (by decide) ?_
  refine lv_iadd hx hb dL_law__1301 ?_
  refine gx_sld E hw hX hbl hbA dL_law__1302 (fun v2 => ?_)
  refine lv_aload_n hx hb dL_law__1303 rfl (lv_at hl 4 rfl) ?_
  refine W_bind fun z3 hz => ?_
  refine w_after (cells1 := c9 + 1) (slots1 := d9 + 6) (w_runSH E kS_L_186 kcH_L_feast (t_L_feast l hfl G N x9 v1 v2 o9 M r ((fun z => (.inl (some (.int z.1)), z.2, r)) z3) (by rw [hz]; rfl)) ⟨Nat.le_of_ble_eq_true rfl, Nat.le_of_ble_eq_true rfl⟩ hw rfl hl.1 rfl (Nat.le_of_ble_eq_true rfl) dL_law__1304 ⟨by show c9 + 0 + 1 ≤ 601024; omega, by show d9 + 0 + 6 ≤ 7293034; omega⟩) hw rfl (by show c9 + 0 + 1 ≤ c9 + 1; omega) (by show d9 + 0 + 6 ≤ d9 + 6; omega) (fun H locs hw => ?_)
  refine W.eq (g2 := F0 m 1307 ls [.int z3.1]) rfl ?_
  have hw : w_W G z3.2 r s H locs := hw
  refine lv_istore (lv' := [(5, .int z3.1), (4, .int i9), (0, .ref b9), (1, .ref x9), (2, .ref (g_r G)), (3, .ref o9)]) hx hb dL_law__1307 hl (by decide) rfl (fun ls hl => ?_)
  refine lv_aload_n hx hb dL_law__1309 rfl (lv_at hl 4 rfl) ?_
  refine lv_aload_n hx hb dL_law__1310 rfl (lv_at hl 2 rfl) ?_
  refine lv_iload hx hb dL_law__1311 (lv_at hl 1 rfl) ?_
  refine lv_iconst (v := 1) hx hb dL_law__1313 (by decide) ?_
  refine lv_iadd hx hb dL_law__1314 ?_
  refine gx_sld E hw hX hbl hbA dL_law__1315 (fun v4 => ?_)
  refine lv_aload_n hx hb dL_law__1316 rfl (lv_at hl 2 rfl) ?_
  refine lv_iload hx hb dL_law__1317 (lv_at hl 1 rfl) ?_
  refine lv_iconst (v := 2) hx hb dL_law__1319 (by decide) ?_
  refine lv_iadd hx hb dL_law__1320 ?_
  refine gx_sld E hw hX hbl hbA dL_law__1321 (fun v5 => ?_)
  refine W_bind fun z6 hz => ?_
  refine w_after (cells1 := c9 + 1) (slots1 := d9 + 6) (w_runV E kV_L_188 kc_X12_feast (t_R_feast l hfl G on N v4 v5 z3.2 r ((fun z => (.inl (some (.int z.1)), z3.2, z.2)) z6) (by rw [hz]; rfl)) ⟨Nat.le_of_ble_eq_true rfl, Nat.le_of_ble_eq_true rfl⟩ hw (w_recvR E hw on) rfl hl.1 rfl (Nat.le_of_ble_eq_true rfl) dL_law__1322 ⟨by show c9 + 1 + 0 ≤ 601024; omega, by show d9 + 6 + 0 ≤ 7293034; omega⟩) hw rfl (by show c9 + 1 + 0 ≤ c9 + 1; omega) (by show d9 + 6 + 0 ≤ d9 + 6; omega) (fun H locs hw => ?_)
  refine W.eq (g2 := F0 m 1325 ls [.int z6.1]) rfl ?_
  have hw : w_W G z3.2 z6.2 s H locs := hw
  refine lv_istore (lv' := [(6, .int z6.1), (5, .int z3.1), (4, .int i9), (0, .ref b9), (1, .ref x9), (2, .ref (g_r G)), (3, .ref o9)]) hx hb dL_law__1325 hl (by decide) rfl (fun ls hl => ?_)
  refine lv_aload_n hx hb dL_law__1327 rfl (lv_at hl 5 rfl) ?_
  refine W_bind fun z7 hz => ?_
  refine w_after (cells1 := c9 + 1) (slots1 := d9 + 6) (w_runV E kV_L_136 kc_X12_thrown (t_R_thrown l hfl G on z3.2 z6.2 ((fun z => (.inl (some (.int z)), z3.2, z6.2)) z7) (by rw [hz]; rfl)) ⟨Nat.le_of_ble_eq_true rfl, Nat.le_of_ble_eq_true rfl⟩ hw (w_recvR E hw on) rfl hl.1 rfl (Nat.le_of_ble_eq_true rfl) dL_law__1328 ⟨by show c9 + 1 + 0 ≤ 601024; omega, by show d9 + 6 + 0 ≤ 7293034; omega⟩) hw rfl (by show c9 + 1 + 0 ≤ c9 + 1; omega) (by show d9 + 6 + 0 ≤ d9 + 6; omega) (fun H locs hw => ?_)
  refine W.eq (g2 := F0 m 1331 ls [.int z7]) rfl ?_
  have hw : w_W G z3.2 z6.2 s H locs := hw
  refine lv_iload hx hb dL_law__1331 (lv_at hl 1 rfl) ?_
  refine cx_icmp_eq (tgt := 1338) E dL_law__1333 (by decide) (fun _ => ?_) (fun _ => ?_)
  · refine lv_iload hx hb dL_law__1338 (lv_at hl 1 rfl) ?_
    refine cx_if_ne (tgt := 1355) E dL_law__1340 (by decide) (fun _ => ?_) (fun _ => ?_)
    · refine lv_goto (tgt := 2675) hx hb dL_law__1355 (by decide) ?_
      refine W.widen (k := c9 + 8) (n := d9 + 900) (by omega) (by omega) ?_
      exact hk z3.2 z6.2 _ _ _ hw (lv_sub hl [2, 3, 4, 5, 6] rfl)
    · refine lv_aload_n hx hb dL_law__1343 rfl (lv_at hl 6 rfl) ?_
      refine lv_iconst (v := 0) hx hb dL_law__1344 (by decide) ?_
      refine gx_lald E hw dL_law__1345 (fun v8 _ => ?_)
      refine lv_iload hx hb dL_law__1346 (lv_at hl 0 rfl) ?_
      refine lv_i2l (v := Int32.toInt64 z6.1) hx hb dL_law__1348 rfl ?_
      refine W.lcmp hx hb dL_law__1349 ?_
      refine cx_if_eq (tgt := 1355) E dL_law__1350 (by decide) (fun _ => ?_) (fun _ => ?_)
      · refine lv_goto (tgt := 2675) hx hb dL_law__1355 (by decide) ?_
        refine W.widen (k := c9 + 8) (n := d9 + 900) (by omega) (by omega) ?_
        exact hk z3.2 z6.2 _ _ _ hw (lv_sub hl [2, 3, 4, 5, 6] rfl)
      · refine lv_iconst (v := 0) hx hb dL_law__1353 (by decide) ?_
        exact W_none
  · refine lv_iconst (v := 0) hx hb dL_law__1336 (by decide) ?_
    exact W_none
set_option maxHeartbeats 4000000 in
set_option maxRecDepth 100000 in
theorem t_L_c18 {p : Program} {l : Launch} {e : Env} {s : State} {m : MethodId} {args : Array Value} {below : List Frame} {meth : Method} {c : Code} {H : Heap} {locs : List Loc} {ls : Array Slot} {G : wG} {M : Mem} {r : Rho} {xs : Nat → Int32} {L b9 x9 o9 c9 d9 N : Nat} {i9 : Int32} {kk : Mem → Rho → Option (Mem × Rho)} (hfl : l.stackTraces = false) (on : g_on G = true) (E : wE G p l s m args meth c cL_law_ "CheekTownLaw" 7) (hX : va_X b9 L xs s s.heap) (hbl : b9 < s.heap.size) (hbA : ¬ g_A G b9) (hw : w_W G M r s H locs) (hl : lv_has ls 7 [(4, .int i9), (0, .ref b9), (1, .ref x9), (2, .ref (g_r G)), (3, .ref o9)]) (hc : c9 + 8 ≤ 601024) (hd : d9 + 900 ≤ 7293034) (hk : ∀ (M : Mem) (r : Rho) (H : Heap) (locs : List Loc) (ls : Array Slot), w_W G M r s H locs → lv_has ls 7 [(4, .int i9), (0, .ref b9), (1, .ref x9), (2, .ref (g_r G)), (3, .ref o9)] → W p l e room_1 s m args below meth c H locs (c9 + 8) (d9 + 900) (PQ G below args s 601024 7293034 (fun z : Mem × Rho => (.inl (some (.int 1)), z)) (kk M r)) (F0 m 2675 ls [])) : W p l e room_1 s m args below meth c H locs c9 d9 (PQ G below args s 601024 7293034 (fun z : Mem × Rho => (.inl (some (.int 1)), z)) (f_L_c18 N xs L x9 o9 i9 M r kk)) (F0 m 1358 ls []) := by
  obtain ⟨hx, hb, hts, hown, hml, hTT, -⟩ := id E
  unfold f_L_c18
  refine lv_aload_n hx hb dL_law__1358 rfl (lv_at hl 2 rfl) ?_
  refine lv_aload_n hx hb dL_law__1359 rfl (lv_at hl 1 rfl) ?_
  refine lv_iload hx hb dL_law__1360 (lv_at hl 0 rfl) ?_
  refine lv_iconst (v := 1) hx hb dL_law__1362 (by decide) ?_
  refine lv_iadd hx hb dL_law__1363 ?_
  refine gx_sld E hw hX hbl hbA dL_law__1364 (fun v1 => ?_)
  refine lv_aload_n hx hb dL_law__1365 rfl (lv_at hl 1 rfl) ?_
  refine lv_iload hx hb dL_law__1366 (lv_at hl 0 rfl) ?_
  refine lv_iconst (v := 2) hx hb dL_law__1368 (by decide) ?_
  refine lv_iadd hx hb dL_law__1369 ?_
  refine gx_sld E hw hX hbl hbA dL_law__1370 (fun v2 => ?_)
  refine lv_aload_n hx hb dL_law__1371 rfl (lv_at hl 4 rfl) ?_
  refine W_bind fun z3 hz => ?_
  refine w_after (cells1 := c9 + 2) (slots1 := d9 + 12) (w_runSH E kS_L_189 kcH_L_expected (t_L_expected l hfl G N x9 v1 v2 o9 M r ((fun z => (.inl (some (.int z.1)), z.2, r)) z3) (by rw [hz]; rfl)) ⟨Nat.le_of_ble_eq_true rfl, Nat.le_of_ble_eq_true rfl⟩ hw rfl hl.1 rfl (Nat.le_of_ble_eq_true rfl) dL_law__1372 ⟨by show c9 + 0 + 2 ≤ 601024; omega, by show d9 + 0 + 12 ≤ 7293034; omega⟩) hw rfl (by show c9 + 0 + 2 ≤ c9 + 2; omega) (by show d9 + 0 + 12 ≤ d9 + 12; omega) (fun H locs hw => ?_)
  refine W.eq (g2 := F0 m 1375 ls [.int z3.1]) rfl ?_
  have hw : w_W G z3.2 r s H locs := hw
  refine lv_istore (lv' := [(5, .int z3.1), (4, .int i9), (0, .ref b9), (1, .ref x9), (2, .ref (g_r G)), (3, .ref o9)]) hx hb dL_law__1375 hl (by decide) rfl (fun ls hl => ?_)
  refine lv_aload_n hx hb dL_law__1377 rfl (lv_at hl 4 rfl) ?_
  refine lv_aload_n hx hb dL_law__1378 rfl (lv_at hl 2 rfl) ?_
  refine lv_iload hx hb dL_law__1379 (lv_at hl 1 rfl) ?_
  refine lv_iconst (v := 1) hx hb dL_law__1381 (by decide) ?_
  refine lv_iadd hx hb dL_law__1382 ?_
  refine gx_sld E hw hX hbl hbA dL_law__1383 (fun v4 => ?_)
  refine lv_aload_n hx hb dL_law__1384 rfl (lv_at hl 2 rfl) ?_
  refine lv_iload hx hb dL_law__1385 (lv_at hl 1 rfl) ?_
  refine lv_iconst (v := 2) hx hb dL_law__1387 (by decide) ?_
  refine lv_iadd hx hb dL_law__1388 ?_
  refine gx_sld E hw hX hbl hbA dL_law__1389 (fun v5 => ?_)
  refine W_bind fun z6 hz => ?_
  refine w_after (cells1 := c9 + 2) (slots1 := d9 + 12) (w_runV E kV_L_191 kc_X12_expected (t_R_expected l hfl G on N v4 v5 z3.2 r ((fun z => (.inl (some (.int z.1)), z3.2, z.2)) z6) (by rw [hz]; rfl)) ⟨Nat.le_of_ble_eq_true rfl, Nat.le_of_ble_eq_true rfl⟩ hw (w_recvR E hw on) rfl hl.1 rfl (Nat.le_of_ble_eq_true rfl) dL_law__1390 ⟨by show c9 + 2 + 0 ≤ 601024; omega, by show d9 + 12 + 0 ≤ 7293034; omega⟩) hw rfl (by show c9 + 2 + 0 ≤ c9 + 2; omega) (by show d9 + 12 + 0 ≤ d9 + 12; omega) (fun H locs hw => ?_)
  refine W.eq (g2 := F0 m 1393 ls [.int z6.1]) rfl ?_
  have hw : w_W G z3.2 z6.2 s H locs := hw
  refine lv_istore (lv' := [(6, .int z6.1), (5, .int z3.1), (4, .int i9), (0, .ref b9), (1, .ref x9), (2, .ref (g_r G)), (3, .ref o9)]) hx hb dL_law__1393 hl (by decide) rfl (fun ls hl => ?_)
  refine lv_aload_n hx hb dL_law__1395 rfl (lv_at hl 5 rfl) ?_
  refine W_bind fun z7 hz => ?_
  refine w_after (cells1 := c9 + 2) (slots1 := d9 + 12) (w_runV E kV_L_136 kc_X12_thrown (t_R_thrown l hfl G on z3.2 z6.2 ((fun z => (.inl (some (.int z)), z3.2, z6.2)) z7) (by rw [hz]; rfl)) ⟨Nat.le_of_ble_eq_true rfl, Nat.le_of_ble_eq_true rfl⟩ hw (w_recvR E hw on) rfl hl.1 rfl (Nat.le_of_ble_eq_true rfl) dL_law__1396 ⟨by show c9 + 2 + 0 ≤ 601024; omega, by show d9 + 12 + 0 ≤ 7293034; omega⟩) hw rfl (by show c9 + 2 + 0 ≤ c9 + 2; omega) (by show d9 + 12 + 0 ≤ d9 + 12; omega) (fun H locs hw => ?_)
  refine W.eq (g2 := F0 m 1399 ls [.int z7]) rfl ?_
  have hw : w_W G z3.2 z6.2 s H locs := hw
  refine lv_iload hx hb dL_law__1399 (lv_at hl 1 rfl) ?_
  refine cx_icmp_eq (tgt := 1406) E dL_law__1401 (by decide) (fun _ => ?_) (fun _ => ?_)
  · refine lv_iload hx hb dL_law__1406 (lv_at hl 1 rfl) ?_
    refine cx_if_ne (tgt := 1423) E dL_law__1408 (by decide) (fun _ => ?_) (fun _ => ?_)
    · refine lv_goto (tgt := 2675) hx hb dL_law__1423 (by decide) ?_
      refine W.widen (k := c9 + 8) (n := d9 + 900) (by omega) (by omega) ?_
      exact hk z3.2 z6.2 _ _ _ hw (lv_sub hl [2, 3, 4, 5, 6] rfl)
    · refine lv_aload_n hx hb dL_law__1411 rfl (lv_at hl 6 rfl) ?_
      refine lv_iconst (v := 0) hx hb dL_law__1412 (by decide) ?_
      refine gx_lald E hw dL_law__1413 (fun v8 _ => ?_)
      refine lv_iload hx hb dL_law__1414 (lv_at hl 0 rfl) ?_
      refine lv_i2l (v := Int32.toInt64 z6.1) hx hb dL_law__1416 rfl ?_
      refine W.lcmp hx hb dL_law__1417 ?_
      refine cx_if_eq (tgt := 1423) E dL_law__1418 (by decide) (fun _ => ?_) (fun _ => ?_)
      · refine lv_goto (tgt := 2675) hx hb dL_law__1423 (by decide) ?_
        refine W.widen (k := c9 + 8) (n := d9 + 900) (by omega) (by omega) ?_
        exact hk z3.2 z6.2 _ _ _ hw (lv_sub hl [2, 3, 4, 5, 6] rfl)
      · refine lv_iconst (v := 0) hx hb dL_law__1421 (by decide) ?_
        exact W_none
  · refine lv_iconst (v := 0) hx hb dL_law__1404 (by decide) ?_
    exact W_none
set_option maxHeartbeats 4000000 in
set_option maxRecDepth 100000 in
theorem t_L_c19 {p : Program} {l : Launch} {e : Env} {s : State} {m : MethodId} {args : Array Value} {below : List Frame} {meth : Method} {c : Code} {H : Heap} {locs : List Loc} {ls : Array Slot} {G : wG} {M : Mem} {r : Rho} {xs : Nat → Int32} {L b9 x9 o9 c9 d9 N : Nat} {i9 : Int32} {kk : Mem → Rho → Option (Mem × Rho)} (hfl : l.stackTraces = false) (on : g_on G = true) (E : wE G p l s m args meth c cL_law_ "CheekTownLaw" 7) (hX : va_X b9 L xs s s.heap) (hbl : b9 < s.heap.size) (hbA : ¬ g_A G b9) (hw : w_W G M r s H locs) (hl : lv_has ls 7 [(4, .int i9), (0, .ref b9), (1, .ref x9), (2, .ref (g_r G)), (3, .ref o9)]) (hc : c9 + 8 ≤ 601024) (hd : d9 + 900 ≤ 7293034) (hk : ∀ (M : Mem) (r : Rho) (H : Heap) (locs : List Loc) (ls : Array Slot), w_W G M r s H locs → lv_has ls 7 [(4, .int i9), (0, .ref b9), (1, .ref x9), (2, .ref (g_r G)), (3, .ref o9)] → W p l e room_1 s m args below meth c H locs (c9 + 8) (d9 + 900) (PQ G below args s 601024 7293034 (fun z : Mem × Rho => (.inl (some (.int 1)), z)) (kk M r)) (F0 m 2675 ls [])) : W p l e room_1 s m args below meth c H locs c9 d9 (PQ G below args s 601024 7293034 (fun z : Mem × Rho => (.inl (some (.int 1)), z)) (f_L_c19 N xs L x9 o9 i9 M r kk)) (F0 m 1426 ls []) := by
  obtain ⟨hx, hb, hts, hown, hml, hTT, -⟩ := id E
  unfold f_L_c19
  refine lv_aload_n hx hb dL_law__1426 rfl (lv_at hl 2 rfl) ?_
  refine lv_aload_n hx hb dL_law__1427 rfl (lv_at hl 1 rfl) ?_
  refine lv_iload hx hb dL_law__1428 (lv_at hl 0 rfl) ?_
  refine lv_iconst (v := 1) hx hb dL_law__1430 (by decide) ?_
  refine lv_iadd hx hb dL_law__1431 ?_
  refine gx_sld E hw hX hbl hbA dL_law__1432 (fun v1 => ?_)
  refine lv_aload_n hx hb dL_law__1433 rfl (lv_at hl 4 rfl) ?_
  refine W_bind fun z2 hz => ?_
  refine w_after (cells1 := c9 + 1) (slots1 := d9 + 6) (w_runSH E kS_L_192 kcH_L_best (t_L_best l hfl G N x9 v1 o9 M r ((fun z => (.inl (some (.int z.1)), z.2, r)) z2) (by rw [hz]; rfl)) ⟨Nat.le_of_ble_eq_true rfl, Nat.le_of_ble_eq_true rfl⟩ hw rfl hl.1 rfl (Nat.le_of_ble_eq_true rfl) dL_law__1434 ⟨by show c9 + 0 + 1 ≤ 601024; omega, by show d9 + 0 + 6 ≤ 7293034; omega⟩) hw rfl (by show c9 + 0 + 1 ≤ c9 + 1; omega) (by show d9 + 0 + 6 ≤ d9 + 6; omega) (fun H locs hw => ?_)
  refine W.eq (g2 := F0 m 1437 ls [.int z2.1]) rfl ?_
  have hw : w_W G z2.2 r s H locs := hw
  refine lv_istore (lv' := [(5, .int z2.1), (4, .int i9), (0, .ref b9), (1, .ref x9), (2, .ref (g_r G)), (3, .ref o9)]) hx hb dL_law__1437 hl (by decide) rfl (fun ls hl => ?_)
  refine lv_aload_n hx hb dL_law__1439 rfl (lv_at hl 4 rfl) ?_
  refine lv_aload_n hx hb dL_law__1440 rfl (lv_at hl 2 rfl) ?_
  refine lv_iload hx hb dL_law__1441 (lv_at hl 1 rfl) ?_
  refine lv_iconst (v := 1) hx hb dL_law__1443 (by decide) ?_
  refine lv_iadd hx hb dL_law__1444 ?_
  refine gx_sld E hw hX hbl hbA dL_law__1445 (fun v3 => ?_)
  refine W_bind fun z4 hz => ?_
  refine w_after (cells1 := c9 + 1) (slots1 := d9 + 6) (w_runV E kV_L_194 kc_X12_best (t_R_best l hfl G on N v3 z2.2 r ((fun z => (.inl (some (.int z.1)), z2.2, z.2)) z4) (by rw [hz]; rfl)) ⟨Nat.le_of_ble_eq_true rfl, Nat.le_of_ble_eq_true rfl⟩ hw (w_recvR E hw on) rfl hl.1 rfl (Nat.le_of_ble_eq_true rfl) dL_law__1446 ⟨by show c9 + 1 + 0 ≤ 601024; omega, by show d9 + 6 + 0 ≤ 7293034; omega⟩) hw rfl (by show c9 + 1 + 0 ≤ c9 + 1; omega) (by show d9 + 6 + 0 ≤ d9 + 6; omega) (fun H locs hw => ?_)
  refine W.eq (g2 := F0 m 1449 ls [.int z4.1]) rfl ?_
  have hw : w_W G z2.2 z4.2 s H locs := hw
  refine lv_istore (lv' := [(6, .int z4.1), (5, .int z2.1), (4, .int i9), (0, .ref b9), (1, .ref x9), (2, .ref (g_r G)), (3, .ref o9)]) hx hb dL_law__1449 hl (by decide) rfl (fun ls hl => ?_)
  refine lv_aload_n hx hb dL_law__1451 rfl (lv_at hl 5 rfl) ?_
  refine W_bind fun z5 hz => ?_
  refine w_after (cells1 := c9 + 1) (slots1 := d9 + 6) (w_runV E kV_L_136 kc_X12_thrown (t_R_thrown l hfl G on z2.2 z4.2 ((fun z => (.inl (some (.int z)), z2.2, z4.2)) z5) (by rw [hz]; rfl)) ⟨Nat.le_of_ble_eq_true rfl, Nat.le_of_ble_eq_true rfl⟩ hw (w_recvR E hw on) rfl hl.1 rfl (Nat.le_of_ble_eq_true rfl) dL_law__1452 ⟨by show c9 + 1 + 0 ≤ 601024; omega, by show d9 + 6 + 0 ≤ 7293034; omega⟩) hw rfl (by show c9 + 1 + 0 ≤ c9 + 1; omega) (by show d9 + 6 + 0 ≤ d9 + 6; omega) (fun H locs hw => ?_)
  refine W.eq (g2 := F0 m 1455 ls [.int z5]) rfl ?_
  have hw : w_W G z2.2 z4.2 s H locs := hw
  refine lv_iload hx hb dL_law__1455 (lv_at hl 1 rfl) ?_
  refine cx_icmp_eq (tgt := 1462) E dL_law__1457 (by decide) (fun _ => ?_) (fun _ => ?_)
  · refine lv_iload hx hb dL_law__1462 (lv_at hl 1 rfl) ?_
    refine cx_if_ne (tgt := 1479) E dL_law__1464 (by decide) (fun _ => ?_) (fun _ => ?_)
    · refine lv_goto (tgt := 2675) hx hb dL_law__1479 (by decide) ?_
      refine W.widen (k := c9 + 8) (n := d9 + 900) (by omega) (by omega) ?_
      exact hk z2.2 z4.2 _ _ _ hw (lv_sub hl [2, 3, 4, 5, 6] rfl)
    · refine lv_aload_n hx hb dL_law__1467 rfl (lv_at hl 6 rfl) ?_
      refine lv_iconst (v := 0) hx hb dL_law__1468 (by decide) ?_
      refine gx_lald E hw dL_law__1469 (fun v6 _ => ?_)
      refine lv_iload hx hb dL_law__1470 (lv_at hl 0 rfl) ?_
      refine lv_i2l (v := Int32.toInt64 z4.1) hx hb dL_law__1472 rfl ?_
      refine W.lcmp hx hb dL_law__1473 ?_
      refine cx_if_eq (tgt := 1479) E dL_law__1474 (by decide) (fun _ => ?_) (fun _ => ?_)
      · refine lv_goto (tgt := 2675) hx hb dL_law__1479 (by decide) ?_
        refine W.widen (k := c9 + 8) (n := d9 + 900) (by omega) (by omega) ?_
        exact hk z2.2 z4.2 _ _ _ hw (lv_sub hl [2, 3, 4, 5, 6] rfl)
      · refine lv_iconst (v := 0) hx hb dL_law__1477 (by decide) ?_
        exact W_none
  · refine lv_iconst (v := 0) hx hb dL_law__1460 (by decide) ?_
    exact W_none
set_option maxHeartbeats 4000000 in
set_option maxRecDepth 100000 in
theorem t_L_c20 {p : Program} {l : Launch} {e : Env} {s : State} {m : MethodId} {args : Array Value} {below : List Frame} {meth : Method} {c : Code} {H : Heap} {locs : List Loc} {ls : Array Slot} {G : wG} {M : Mem} {r : Rho} {xs : Nat → Int32} {L b9 x9 o9 c9 d9 N : Nat} {i9 : Int32} {kk : Mem → Rho → Option (Mem × Rho)} (hfl : l.stackTraces = false) (on : g_on G = true) (E : wE G p l s m args meth c cL_law_ "CheekTownLaw" 7) (hX : va_X b9 L xs s s.heap) (hbl : b9 < s.heap.size) (hbA : ¬ g_A G b9) (hw : w_W G M r s H locs) (hl : lv_has ls 7 [(4, .int i9), (0, .ref b9), (1, .ref x9), (2, .ref (g_r G)), (3, .ref o9)]) (hc : c9 + 8 ≤ 601024) (hd : d9 + 900 ≤ 7293034) (hk : ∀ (M : Mem) (r : Rho) (H : Heap) (locs : List Loc) (ls : Array Slot), w_W G M r s H locs → lv_has ls 7 [(4, .int i9), (0, .ref b9), (1, .ref x9), (2, .ref (g_r G)), (3, .ref o9)] → W p l e room_1 s m args below meth c H locs (c9 + 8) (d9 + 900) (PQ G below args s 601024 7293034 (fun z : Mem × Rho => (.inl (some (.int 1)), z)) (kk M r)) (F0 m 2675 ls [])) : W p l e room_1 s m args below meth c H locs c9 d9 (PQ G below args s 601024 7293034 (fun z : Mem × Rho => (.inl (some (.int 1)), z)) (f_L_c20 N xs L x9 o9 i9 M r kk)) (F0 m 1482 ls []) := by
  obtain ⟨hx, hb, hts, hown, hml, hTT, -⟩ := id E
  unfold f_L_c20
  refine lv_aload_n hx hb dL_law__1482 rfl (lv_at hl 2 rfl) ?_
  refine lv_aload_n hx hb dL_law__1483 rfl (lv_at hl 1 rfl) ?_
  refine lv_iload hx hb dL_law__1484 (lv_at hl 0 rfl) ?_
  refine lv_iconst (v := 1) hx hb dL_law__1486 (by decide) ?_
  refine lv_iadd hx hb dL_law__1487 ?_
  refine gx_sld E hw hX hbl hbA dL_law__1488 (fun v1 => ?_)
  refine gx_flag E dL_law__1489 dL_law__1492 dL_law__1493 dL_law__1496 ?_
  refine W.eq (g2 := F0 m 1497 ls [.int (bz v1), .ref x9]) rfl ?_
  refine W_bind fun _ hck => ?_
  refine W_bind fun z2 hz => ?_
  refine w_after (cells1 := c9 + 0) (slots1 := d9 + 0) (w_runV E kV_L_195 kc_X11_safest (t_CT_safest l hfl G N x9 (bz v1) M r ((fun z => (.inl (some (.int z)), M, r)) z2) (by rw [hz]; rfl)) ⟨Nat.le_of_ble_eq_true rfl, Nat.le_of_ble_eq_true rfl⟩ hw (w_recv E hw (by decide) ⟨_, _, rfl⟩ (ck_ok hck)) rfl hl.1 rfl (Nat.le_of_ble_eq_true rfl) dL_law__1497 ⟨by show c9 + 0 + 0 ≤ 601024; omega, by show d9 + 0 + 0 ≤ 7293034; omega⟩) hw rfl (by show c9 + 0 + 0 ≤ c9 + 0; omega) (by show d9 + 0 + 0 ≤ d9 + 0; omega) (fun H locs hw => ?_)
  refine W.eq (g2 := F0 m 1500 ls [.int z2]) rfl ?_
  have hw : w_W G M r s H locs := hw
  refine lv_aload_n hx hb dL_law__1500 rfl (lv_at hl 3 rfl) ?_
  refine lv_aload_n hx hb dL_law__1501 rfl (lv_at hl 1 rfl) ?_
  refine lv_iload hx hb dL_law__1502 (lv_at hl 0 rfl) ?_
  refine lv_iconst (v := 1) hx hb dL_law__1504 (by decide) ?_
  refine lv_iadd hx hb dL_law__1505 ?_
  refine gx_sld E hw hX hbl hbA dL_law__1506 (fun v3 => ?_)
  refine gx_flag E dL_law__1507 dL_law__1510 dL_law__1511 dL_law__1514 ?_
  refine W.eq (g2 := F0 m 1515 ls [.int (bz v3), .ref (g_r G), .int z2]) rfl ?_
  refine W_bind fun z4 hz => ?_
  refine w_after (cells1 := c9 + 0) (slots1 := d9 + 0) (w_runV E kV_L_198 kc_X12_safest (t_R_safest l hfl G on N (bz v3) M r ((fun z => (.inl (some (.int z.1)), M, z.2)) z4) (by rw [hz]; rfl)) ⟨Nat.le_of_ble_eq_true rfl, Nat.le_of_ble_eq_true rfl⟩ hw (w_recvR E hw on) rfl hl.1 rfl (Nat.le_of_ble_eq_true rfl) dL_law__1515 ⟨by show c9 + 0 + 0 ≤ 601024; omega, by show d9 + 0 + 0 ≤ 7293034; omega⟩) hw rfl (by show c9 + 0 + 0 ≤ c9 + 0; omega) (by show d9 + 0 + 0 ≤ d9 + 0; omega) (fun H locs hw => ?_)
  refine W.eq (g2 := F0 m 1518 ls [.int z4.1, .int z2]) rfl ?_
  have hw : w_W G M z4.2 s H locs := hw
  refine cx_icmp_eq (tgt := 2675) E dL_law__1518 (by decide) (fun _ => ?_) (fun _ => ?_)
  · refine W.widen (k := c9 + 8) (n := d9 + 900) (by omega) (by omega) ?_
    exact hk M z4.2 _ _ _ hw (lv_sub hl [0, 1, 2, 3, 4] rfl)
  · refine lv_iconst (v := 0) hx hb dL_law__1521 (by decide) ?_
    exact W_none
set_option maxHeartbeats 4000000 in
set_option maxRecDepth 100000 in
theorem t_L_c21 {p : Program} {l : Launch} {e : Env} {s : State} {m : MethodId} {args : Array Value} {below : List Frame} {meth : Method} {c : Code} {H : Heap} {locs : List Loc} {ls : Array Slot} {G : wG} {M : Mem} {r : Rho} {xs : Nat → Int32} {L b9 x9 o9 c9 d9 N : Nat} {i9 : Int32} {kk : Mem → Rho → Option (Mem × Rho)} (hfl : l.stackTraces = false) (on : g_on G = true) (E : wE G p l s m args meth c cL_law_ "CheekTownLaw" 7) (hX : va_X b9 L xs s s.heap) (hbl : b9 < s.heap.size) (hbA : ¬ g_A G b9) (hw : w_W G M r s H locs) (hl : lv_has ls 7 [(4, .int i9), (0, .ref b9), (1, .ref x9), (2, .ref (g_r G)), (3, .ref o9)]) (hc : c9 + 8 ≤ 601024) (hd : d9 + 900 ≤ 7293034) (hk : ∀ (M : Mem) (r : Rho) (H : Heap) (locs : List Loc) (ls : Array Slot), w_W G M r s H locs → lv_has ls 7 [(4, .int i9), (0, .ref b9), (1, .ref x9), (2, .ref (g_r G)), (3, .ref o9)] → W p l e room_1 s m args below meth c H locs (c9 + 8) (d9 + 900) (PQ G below args s 601024 7293034 (fun z : Mem × Rho => (.inl (some (.int 1)), z)) (kk M r)) (F0 m 2675 ls [])) : W p l e room_1 s m args below meth c H locs c9 d9 (PQ G below args s 601024 7293034 (fun z : Mem × Rho => (.inl (some (.int 1)), z)) (f_L_c21 N xs L x9 o9 i9 M r kk)) (F0 m 1523 ls []) := by
  obtain ⟨hx, hb, hts, hown, hml, hTT, -⟩ := id E
  unfold f_L_c21
  refine lv_aload_n hx hb dL_law__1523 rfl (lv_at hl 2 rfl) ?_
  refine lv_aload_n hx hb dL_law__1524 rfl (lv_at hl 1 rfl) ?_
  refine lv_iload hx hb dL_law__1525 (lv_at hl 0 rfl) ?_
  refine lv_iconst (v := 1) hx hb dL_law__1527 (by decide) ?_
  refine lv_iadd hx hb dL_law__1528 ?_
  refine gx_sld E hw hX hbl hbA dL_law__1529 (fun v1 => ?_)
  refine lv_aload_n hx hb dL_law__1530 rfl (lv_at hl 1 rfl) ?_
  refine lv_iload hx hb dL_law__1531 (lv_at hl 0 rfl) ?_
  refine lv_iconst (v := 2) hx hb dL_law__1533 (by decide) ?_
  refine lv_iadd hx hb dL_law__1534 ?_
  refine gx_sld E hw hX hbl hbA dL_law__1535 (fun v2 => ?_)
  refine lv_aload_n hx hb dL_law__1536 rfl (lv_at hl 4 rfl) ?_
  refine W_bind fun z3 hz => ?_
  refine w_after (cells1 := c9 + 2) (slots1 := d9 + 12) (w_runSH E kS_L_199 kcH_L_odds (t_L_odds l hfl G N x9 v1 v2 o9 M r ((fun z => (.inl (some (.int z.1)), z.2, r)) z3) (by rw [hz]; rfl)) ⟨Nat.le_of_ble_eq_true rfl, Nat.le_of_ble_eq_true rfl⟩ hw rfl hl.1 rfl (Nat.le_of_ble_eq_true rfl) dL_law__1537 ⟨by show c9 + 0 + 2 ≤ 601024; omega, by show d9 + 0 + 12 ≤ 7293034; omega⟩) hw rfl (by show c9 + 0 + 2 ≤ c9 + 2; omega) (by show d9 + 0 + 12 ≤ d9 + 12; omega) (fun H locs hw => ?_)
  refine W.eq (g2 := F0 m 1540 ls [.int z3.1]) rfl ?_
  have hw : w_W G z3.2 r s H locs := hw
  refine lv_istore (lv' := [(5, .int z3.1), (4, .int i9), (0, .ref b9), (1, .ref x9), (2, .ref (g_r G)), (3, .ref o9)]) hx hb dL_law__1540 hl (by decide) rfl (fun ls hl => ?_)
  refine lv_aload_n hx hb dL_law__1542 rfl (lv_at hl 4 rfl) ?_
  refine lv_aload_n hx hb dL_law__1543 rfl (lv_at hl 2 rfl) ?_
  refine lv_iload hx hb dL_law__1544 (lv_at hl 1 rfl) ?_
  refine lv_iconst (v := 1) hx hb dL_law__1546 (by decide) ?_
  refine lv_iadd hx hb dL_law__1547 ?_
  refine gx_sld E hw hX hbl hbA dL_law__1548 (fun v4 => ?_)
  refine lv_aload_n hx hb dL_law__1549 rfl (lv_at hl 2 rfl) ?_
  refine lv_iload hx hb dL_law__1550 (lv_at hl 1 rfl) ?_
  refine lv_iconst (v := 2) hx hb dL_law__1552 (by decide) ?_
  refine lv_iadd hx hb dL_law__1553 ?_
  refine gx_sld E hw hX hbl hbA dL_law__1554 (fun v5 => ?_)
  refine W_bind fun z6 hz => ?_
  refine w_after (cells1 := c9 + 2) (slots1 := d9 + 12) (w_runV E kV_L_201 kc_X12_odds (t_R_odds l hfl G on N v4 v5 z3.2 r ((fun z => (.inl (some (.int z.1)), z3.2, z.2)) z6) (by rw [hz]; rfl)) ⟨Nat.le_of_ble_eq_true rfl, Nat.le_of_ble_eq_true rfl⟩ hw (w_recvR E hw on) rfl hl.1 rfl (Nat.le_of_ble_eq_true rfl) dL_law__1555 ⟨by show c9 + 2 + 0 ≤ 601024; omega, by show d9 + 12 + 0 ≤ 7293034; omega⟩) hw rfl (by show c9 + 2 + 0 ≤ c9 + 2; omega) (by show d9 + 12 + 0 ≤ d9 + 12; omega) (fun H locs hw => ?_)
  refine W.eq (g2 := F0 m 1558 ls [.int z6.1]) rfl ?_
  have hw : w_W G z3.2 z6.2 s H locs := hw
  refine lv_istore (lv' := [(6, .int z6.1), (5, .int z3.1), (4, .int i9), (0, .ref b9), (1, .ref x9), (2, .ref (g_r G)), (3, .ref o9)]) hx hb dL_law__1558 hl (by decide) rfl (fun ls hl => ?_)
  refine lv_aload_n hx hb dL_law__1560 rfl (lv_at hl 5 rfl) ?_
  refine W_bind fun z7 hz => ?_
  refine w_after (cells1 := c9 + 2) (slots1 := d9 + 12) (w_runV E kV_L_136 kc_X12_thrown (t_R_thrown l hfl G on z3.2 z6.2 ((fun z => (.inl (some (.int z)), z3.2, z6.2)) z7) (by rw [hz]; rfl)) ⟨Nat.le_of_ble_eq_true rfl, Nat.le_of_ble_eq_true rfl⟩ hw (w_recvR E hw on) rfl hl.1 rfl (Nat.le_of_ble_eq_true rfl) dL_law__1561 ⟨by show c9 + 2 + 0 ≤ 601024; omega, by show d9 + 12 + 0 ≤ 7293034; omega⟩) hw rfl (by show c9 + 2 + 0 ≤ c9 + 2; omega) (by show d9 + 12 + 0 ≤ d9 + 12; omega) (fun H locs hw => ?_)
  refine W.eq (g2 := F0 m 1564 ls [.int z7]) rfl ?_
  have hw : w_W G z3.2 z6.2 s H locs := hw
  refine lv_iload hx hb dL_law__1564 (lv_at hl 1 rfl) ?_
  refine cx_icmp_eq (tgt := 1571) E dL_law__1566 (by decide) (fun _ => ?_) (fun _ => ?_)
  · refine lv_iload hx hb dL_law__1571 (lv_at hl 1 rfl) ?_
    refine cx_if_ne (tgt := 1588) E dL_law__1573 (by decide) (fun _ => ?_) (fun _ => ?_)
    · refine lv_goto (tgt := 2675) hx hb dL_law__1588 (by decide) ?_
      refine W.widen (k := c9 + 8) (n := d9 + 900) (by omega) (by omega) ?_
      exact hk z3.2 z6.2 _ _ _ hw (lv_sub hl [2, 3, 4, 5, 6] rfl)
    · refine lv_aload_n hx hb dL_law__1576 rfl (lv_at hl 6 rfl) ?_
      refine lv_iconst (v := 0) hx hb dL_law__1577 (by decide) ?_
      refine gx_lald E hw dL_law__1578 (fun v8 _ => ?_)
      refine lv_iload hx hb dL_law__1579 (lv_at hl 0 rfl) ?_
      refine lv_i2l (v := Int32.toInt64 z6.1) hx hb dL_law__1581 rfl ?_
      refine W.lcmp hx hb dL_law__1582 ?_
      refine cx_if_eq (tgt := 1588) E dL_law__1583 (by decide) (fun _ => ?_) (fun _ => ?_)
      · refine lv_goto (tgt := 2675) hx hb dL_law__1588 (by decide) ?_
        refine W.widen (k := c9 + 8) (n := d9 + 900) (by omega) (by omega) ?_
        exact hk z3.2 z6.2 _ _ _ hw (lv_sub hl [2, 3, 4, 5, 6] rfl)
      · refine lv_iconst (v := 0) hx hb dL_law__1586 (by decide) ?_
        exact W_none
  · refine lv_iconst (v := 0) hx hb dL_law__1569 (by decide) ?_
    exact W_none
set_option maxHeartbeats 4000000 in
set_option maxRecDepth 100000 in
theorem t_L_c22 {p : Program} {l : Launch} {e : Env} {s : State} {m : MethodId} {args : Array Value} {below : List Frame} {meth : Method} {c : Code} {H : Heap} {locs : List Loc} {ls : Array Slot} {G : wG} {M : Mem} {r : Rho} {xs : Nat → Int32} {L b9 x9 o9 c9 d9 N : Nat} {i9 : Int32} {kk : Mem → Rho → Option (Mem × Rho)} (hfl : l.stackTraces = false) (on : g_on G = true) (E : wE G p l s m args meth c cL_law_ "CheekTownLaw" 7) (hX : va_X b9 L xs s s.heap) (hbl : b9 < s.heap.size) (hbA : ¬ g_A G b9) (hw : w_W G M r s H locs) (hl : lv_has ls 7 [(4, .int i9), (0, .ref b9), (1, .ref x9), (2, .ref (g_r G)), (3, .ref o9)]) (hc : c9 + 8 ≤ 601024) (hd : d9 + 900 ≤ 7293034) (hk : ∀ (M : Mem) (r : Rho) (H : Heap) (locs : List Loc) (ls : Array Slot), w_W G M r s H locs → lv_has ls 7 [(4, .int i9), (0, .ref b9), (1, .ref x9), (2, .ref (g_r G)), (3, .ref o9)] → W p l e room_1 s m args below meth c H locs (c9 + 8) (d9 + 900) (PQ G below args s 601024 7293034 (fun z : Mem × Rho => (.inl (some (.int 1)), z)) (kk M r)) (F0 m 2675 ls [])) : W p l e room_1 s m args below meth c H locs c9 d9 (PQ G below args s 601024 7293034 (fun z : Mem × Rho => (.inl (some (.int 1)), z)) (f_L_c22 N xs L x9 o9 i9 M r kk)) (F0 m 1591 ls []) := by
  obtain ⟨hx, hb, hts, hown, hml, hTT, -⟩ := id E
  unfold f_L_c22
  refine lv_aload_n hx hb dL_law__1591 rfl (lv_at hl 2 rfl) ?_
  refine lv_aload_n hx hb dL_law__1592 rfl (lv_at hl 1 rfl) ?_
  refine lv_iload hx hb dL_law__1593 (lv_at hl 0 rfl) ?_
  refine lv_iconst (v := 1) hx hb dL_law__1595 (by decide) ?_
  refine lv_iadd hx hb dL_law__1596 ?_
  refine gx_sld E hw hX hbl hbA dL_law__1597 (fun v1 => ?_)
  refine gx_flag E dL_law__1598 dL_law__1601 dL_law__1602 dL_law__1605 ?_
  refine W.eq (g2 := F0 m 1606 ls [.int (bz v1), .ref x9]) rfl ?_
  refine lv_aload_n hx hb dL_law__1606 rfl (lv_at hl 4 rfl) ?_
  refine W_bind fun z2 hz => ?_
  refine w_after (cells1 := c9 + 1) (slots1 := d9 + 6) (w_runSH E kS_L_202 kcH_L_from (t_L_from l hfl G N x9 (bz v1) o9 M r ((fun z => (.inl (some (.int z.1)), z.2, r)) z2) (by rw [hz]; rfl)) ⟨Nat.le_of_ble_eq_true rfl, Nat.le_of_ble_eq_true rfl⟩ hw rfl hl.1 rfl (Nat.le_of_ble_eq_true rfl) dL_law__1607 ⟨by show c9 + 0 + 1 ≤ 601024; omega, by show d9 + 0 + 6 ≤ 7293034; omega⟩) hw rfl (by show c9 + 0 + 1 ≤ c9 + 1; omega) (by show d9 + 0 + 6 ≤ d9 + 6; omega) (fun H locs hw => ?_)
  refine W.eq (g2 := F0 m 1610 ls [.int z2.1]) rfl ?_
  have hw : w_W G z2.2 r s H locs := hw
  refine lv_istore (lv' := [(5, .int z2.1), (4, .int i9), (0, .ref b9), (1, .ref x9), (2, .ref (g_r G)), (3, .ref o9)]) hx hb dL_law__1610 hl (by decide) rfl (fun ls hl => ?_)
  refine lv_aload_n hx hb dL_law__1612 rfl (lv_at hl 4 rfl) ?_
  refine lv_aload_n hx hb dL_law__1613 rfl (lv_at hl 2 rfl) ?_
  refine lv_iload hx hb dL_law__1614 (lv_at hl 1 rfl) ?_
  refine lv_iconst (v := 1) hx hb dL_law__1616 (by decide) ?_
  refine lv_iadd hx hb dL_law__1617 ?_
  refine gx_sld E hw hX hbl hbA dL_law__1618 (fun v3 => ?_)
  refine gx_flag E dL_law__1619 dL_law__1622 dL_law__1623 dL_law__1626 ?_
  refine W.eq (g2 := F0 m 1627 ls [.int (bz v3), .ref (g_r G)]) rfl ?_
  refine W_bind fun z4 hz => ?_
  refine w_after (cells1 := c9 + 1) (slots1 := d9 + 6) (w_runV E kV_L_205 kc_X12_from (t_R_from l hfl G on N (bz v3) z2.2 r ((fun z => (.inl (some (.int z.1)), z2.2, z.2)) z4) (by rw [hz]; rfl)) ⟨Nat.le_of_ble_eq_true rfl, Nat.le_of_ble_eq_true rfl⟩ hw (w_recvR E hw on) rfl hl.1 rfl (Nat.le_of_ble_eq_true rfl) dL_law__1627 ⟨by show c9 + 1 + 0 ≤ 601024; omega, by show d9 + 6 + 0 ≤ 7293034; omega⟩) hw rfl (by show c9 + 1 + 0 ≤ c9 + 1; omega) (by show d9 + 6 + 0 ≤ d9 + 6; omega) (fun H locs hw => ?_)
  refine W.eq (g2 := F0 m 1630 ls [.int z4.1]) rfl ?_
  have hw : w_W G z2.2 z4.2 s H locs := hw
  refine lv_istore (lv' := [(6, .int z4.1), (5, .int z2.1), (4, .int i9), (0, .ref b9), (1, .ref x9), (2, .ref (g_r G)), (3, .ref o9)]) hx hb dL_law__1630 hl (by decide) rfl (fun ls hl => ?_)
  refine lv_aload_n hx hb dL_law__1632 rfl (lv_at hl 5 rfl) ?_
  refine W_bind fun z5 hz => ?_
  refine w_after (cells1 := c9 + 1) (slots1 := d9 + 6) (w_runV E kV_L_136 kc_X12_thrown (t_R_thrown l hfl G on z2.2 z4.2 ((fun z => (.inl (some (.int z)), z2.2, z4.2)) z5) (by rw [hz]; rfl)) ⟨Nat.le_of_ble_eq_true rfl, Nat.le_of_ble_eq_true rfl⟩ hw (w_recvR E hw on) rfl hl.1 rfl (Nat.le_of_ble_eq_true rfl) dL_law__1633 ⟨by show c9 + 1 + 0 ≤ 601024; omega, by show d9 + 6 + 0 ≤ 7293034; omega⟩) hw rfl (by show c9 + 1 + 0 ≤ c9 + 1; omega) (by show d9 + 6 + 0 ≤ d9 + 6; omega) (fun H locs hw => ?_)
  refine W.eq (g2 := F0 m 1636 ls [.int z5]) rfl ?_
  have hw : w_W G z2.2 z4.2 s H locs := hw
  refine lv_iload hx hb dL_law__1636 (lv_at hl 1 rfl) ?_
  refine cx_icmp_eq (tgt := 1643) E dL_law__1638 (by decide) (fun _ => ?_) (fun _ => ?_)
  · refine lv_iload hx hb dL_law__1643 (lv_at hl 1 rfl) ?_
    refine cx_if_ne (tgt := 1660) E dL_law__1645 (by decide) (fun _ => ?_) (fun _ => ?_)
    · refine lv_goto (tgt := 2675) hx hb dL_law__1660 (by decide) ?_
      refine W.widen (k := c9 + 8) (n := d9 + 900) (by omega) (by omega) ?_
      exact hk z2.2 z4.2 _ _ _ hw (lv_sub hl [2, 3, 4, 5, 6] rfl)
    · refine lv_aload_n hx hb dL_law__1648 rfl (lv_at hl 6 rfl) ?_
      refine lv_iconst (v := 0) hx hb dL_law__1649 (by decide) ?_
      refine gx_lald E hw dL_law__1650 (fun v6 _ => ?_)
      refine lv_iload hx hb dL_law__1651 (lv_at hl 0 rfl) ?_
      refine lv_i2l (v := Int32.toInt64 z4.1) hx hb dL_law__1653 rfl ?_
      refine W.lcmp hx hb dL_law__1654 ?_
      refine cx_if_eq (tgt := 1660) E dL_law__1655 (by decide) (fun _ => ?_) (fun _ => ?_)
      · refine lv_goto (tgt := 2675) hx hb dL_law__1660 (by decide) ?_
        refine W.widen (k := c9 + 8) (n := d9 + 900) (by omega) (by omega) ?_
        exact hk z2.2 z4.2 _ _ _ hw (lv_sub hl [2, 3, 4, 5, 6] rfl)
      · refine lv_iconst (v := 0) hx hb dL_law__1658 (by decide) ?_
        exact W_none
  · refine lv_iconst (v := 0) hx hb dL_law__1641 (by decide) ?_
    exact W_none
set_option maxHeartbeats 4000000 in
set_option maxRecDepth 100000 in
theorem t_L_c23 {p : Program} {l : Launch} {e : Env} {s : State} {m : MethodId} {args : Array Value} {below : List Frame} {meth : Method} {c : Code} {H : Heap} {locs : List Loc} {ls : Array Slot} {G : wG} {M : Mem} {r : Rho} {xs : Nat → Int32} {L b9 x9 o9 c9 d9 N : Nat} {i9 : Int32} {kk : Mem → Rho → Option (Mem × Rho)} (hfl : l.stackTraces = false) (on : g_on G = true) (E : wE G p l s m args meth c cL_law_ "CheekTownLaw" 7) (hX : va_X b9 L xs s s.heap) (hbl : b9 < s.heap.size) (hbA : ¬ g_A G b9) (hw : w_W G M r s H locs) (hl : lv_has ls 7 [(4, .int i9), (0, .ref b9), (1, .ref x9), (2, .ref (g_r G)), (3, .ref o9)]) (hc : c9 + 8 ≤ 601024) (hd : d9 + 900 ≤ 7293034) (hk : ∀ (M : Mem) (r : Rho) (H : Heap) (locs : List Loc) (ls : Array Slot), w_W G M r s H locs → lv_has ls 7 [(4, .int i9), (0, .ref b9), (1, .ref x9), (2, .ref (g_r G)), (3, .ref o9)] → W p l e room_1 s m args below meth c H locs (c9 + 8) (d9 + 900) (PQ G below args s 601024 7293034 (fun z : Mem × Rho => (.inl (some (.int 1)), z)) (kk M r)) (F0 m 2675 ls [])) : W p l e room_1 s m args below meth c H locs c9 d9 (PQ G below args s 601024 7293034 (fun z : Mem × Rho => (.inl (some (.int 1)), z)) (f_L_c23 N xs L x9 o9 i9 M r kk)) (F0 m 1663 ls []) := by
  obtain ⟨hx, hb, hts, hown, hml, hTT, -⟩ := id E
  unfold f_L_c23
  refine lv_aload_n hx hb dL_law__1663 rfl (lv_at hl 2 rfl) ?_
  refine W_bind fun _ hck => ?_
  refine W_bind fun z1 hz => ?_
  refine w_after (cells1 := c9 + 0) (slots1 := d9 + 0) (w_runV E kV_L_206 kc_X11_worth (t_CT_worth l hfl G N x9 M r ((fun z => (.inl (some (.int z)), M, r)) z1) (by rw [hz]; rfl)) ⟨Nat.le_of_ble_eq_true rfl, Nat.le_of_ble_eq_true rfl⟩ hw (w_recv E hw (by decide) ⟨_, _, rfl⟩ (ck_ok hck)) rfl hl.1 rfl (Nat.le_of_ble_eq_true rfl) dL_law__1664 ⟨by show c9 + 0 + 0 ≤ 601024; omega, by show d9 + 0 + 0 ≤ 7293034; omega⟩) hw rfl (by show c9 + 0 + 0 ≤ c9 + 0; omega) (by show d9 + 0 + 0 ≤ d9 + 0; omega) (fun H locs hw => ?_)
  refine W.eq (g2 := F0 m 1667 ls [.int z1]) rfl ?_
  have hw : w_W G M r s H locs := hw
  refine lv_aload_n hx hb dL_law__1667 rfl (lv_at hl 3 rfl) ?_
  refine W_bind fun z2 hz => ?_
  refine w_after (cells1 := c9 + 0) (slots1 := d9 + 0) (w_runV E kV_L_209 kc_X12_worth (t_R_worth l hfl G on N M r ((fun z => (.inl (some (.int z.1)), M, z.2)) z2) (by rw [hz]; rfl)) ⟨Nat.le_of_ble_eq_true rfl, Nat.le_of_ble_eq_true rfl⟩ hw (w_recvR E hw on) rfl hl.1 rfl (Nat.le_of_ble_eq_true rfl) dL_law__1668 ⟨by show c9 + 0 + 0 ≤ 601024; omega, by show d9 + 0 + 0 ≤ 7293034; omega⟩) hw rfl (by show c9 + 0 + 0 ≤ c9 + 0; omega) (by show d9 + 0 + 0 ≤ d9 + 0; omega) (fun H locs hw => ?_)
  refine W.eq (g2 := F0 m 1671 ls [.int z2.1, .int z1]) rfl ?_
  have hw : w_W G M z2.2 s H locs := hw
  refine cx_icmp_eq (tgt := 2675) E dL_law__1671 (by decide) (fun _ => ?_) (fun _ => ?_)
  · refine W.widen (k := c9 + 8) (n := d9 + 900) (by omega) (by omega) ?_
    exact hk M z2.2 _ _ _ hw (lv_sub hl [0, 1, 2, 3, 4] rfl)
  · refine lv_iconst (v := 0) hx hb dL_law__1674 (by decide) ?_
    exact W_none
set_option maxHeartbeats 4000000 in
set_option maxRecDepth 100000 in
theorem t_L_c24 {p : Program} {l : Launch} {e : Env} {s : State} {m : MethodId} {args : Array Value} {below : List Frame} {meth : Method} {c : Code} {H : Heap} {locs : List Loc} {ls : Array Slot} {G : wG} {M : Mem} {r : Rho} {xs : Nat → Int32} {L b9 x9 o9 c9 d9 N : Nat} {i9 : Int32} {kk : Mem → Rho → Option (Mem × Rho)} (hfl : l.stackTraces = false) (on : g_on G = true) (E : wE G p l s m args meth c cL_law_ "CheekTownLaw" 7) (hX : va_X b9 L xs s s.heap) (hbl : b9 < s.heap.size) (hbA : ¬ g_A G b9) (hw : w_W G M r s H locs) (hl : lv_has ls 7 [(4, .int i9), (0, .ref b9), (1, .ref x9), (2, .ref (g_r G)), (3, .ref o9)]) (hc : c9 + 8 ≤ 601024) (hd : d9 + 900 ≤ 7293034) (hk : ∀ (M : Mem) (r : Rho) (H : Heap) (locs : List Loc) (ls : Array Slot), w_W G M r s H locs → lv_has ls 7 [(4, .int i9), (0, .ref b9), (1, .ref x9), (2, .ref (g_r G)), (3, .ref o9)] → W p l e room_1 s m args below meth c H locs (c9 + 8) (d9 + 900) (PQ G below args s 601024 7293034 (fun z : Mem × Rho => (.inl (some (.int 1)), z)) (kk M r)) (F0 m 2675 ls [])) : W p l e room_1 s m args below meth c H locs c9 d9 (PQ G below args s 601024 7293034 (fun z : Mem × Rho => (.inl (some (.int 1)), z)) (f_L_c24 N xs L x9 o9 i9 M r kk)) (F0 m 1676 ls []) := by
  obtain ⟨hx, hb, hts, hown, hml, hTT, -⟩ := id E
  unfold f_L_c24
  refine lv_aload_n hx hb dL_law__1676 rfl (lv_at hl 2 rfl) ?_
  refine lv_aload_n hx hb dL_law__1677 rfl (lv_at hl 1 rfl) ?_
  refine lv_iload hx hb dL_law__1678 (lv_at hl 0 rfl) ?_
  refine lv_iconst (v := 1) hx hb dL_law__1680 (by decide) ?_
  refine lv_iadd hx hb dL_law__1681 ?_
  refine gx_sld E hw hX hbl hbA dL_law__1682 (fun v1 => ?_)
  refine lv_aload_n hx hb dL_law__1683 rfl (lv_at hl 1 rfl) ?_
  refine lv_iload hx hb dL_law__1684 (lv_at hl 0 rfl) ?_
  refine lv_iconst (v := 2) hx hb dL_law__1686 (by decide) ?_
  refine lv_iadd hx hb dL_law__1687 ?_
  refine gx_sld E hw hX hbl hbA dL_law__1688 (fun v2 => ?_)
  refine lv_aload_n hx hb dL_law__1689 rfl (lv_at hl 4 rfl) ?_
  refine W_bind fun z3 hz => ?_
  refine w_after (cells1 := c9 + 3) (slots1 := d9 + 18) (w_runSH E kS_L_210 kcH_L_rests (t_L_rests l hfl G N x9 v1 v2 o9 M r ((fun z => (.inl (some (.int z.1)), z.2, r)) z3) (by rw [hz]; rfl)) ⟨Nat.le_of_ble_eq_true rfl, Nat.le_of_ble_eq_true rfl⟩ hw rfl hl.1 rfl (Nat.le_of_ble_eq_true rfl) dL_law__1690 ⟨by show c9 + 0 + 3 ≤ 601024; omega, by show d9 + 0 + 18 ≤ 7293034; omega⟩) hw rfl (by show c9 + 0 + 3 ≤ c9 + 3; omega) (by show d9 + 0 + 18 ≤ d9 + 18; omega) (fun H locs hw => ?_)
  refine W.eq (g2 := F0 m 1693 ls [.int z3.1]) rfl ?_
  have hw : w_W G z3.2 r s H locs := hw
  refine lv_istore (lv' := [(5, .int z3.1), (4, .int i9), (0, .ref b9), (1, .ref x9), (2, .ref (g_r G)), (3, .ref o9)]) hx hb dL_law__1693 hl (by decide) rfl (fun ls hl => ?_)
  refine lv_aload_n hx hb dL_law__1695 rfl (lv_at hl 4 rfl) ?_
  refine lv_aload_n hx hb dL_law__1696 rfl (lv_at hl 2 rfl) ?_
  refine lv_iload hx hb dL_law__1697 (lv_at hl 1 rfl) ?_
  refine lv_iconst (v := 1) hx hb dL_law__1699 (by decide) ?_
  refine lv_iadd hx hb dL_law__1700 ?_
  refine gx_sld E hw hX hbl hbA dL_law__1701 (fun v4 => ?_)
  refine lv_aload_n hx hb dL_law__1702 rfl (lv_at hl 2 rfl) ?_
  refine lv_iload hx hb dL_law__1703 (lv_at hl 1 rfl) ?_
  refine lv_iconst (v := 2) hx hb dL_law__1705 (by decide) ?_
  refine lv_iadd hx hb dL_law__1706 ?_
  refine gx_sld E hw hX hbl hbA dL_law__1707 (fun v5 => ?_)
  refine W_bind fun z6 hz => ?_
  refine w_after (cells1 := c9 + 3) (slots1 := d9 + 18) (w_runV E kV_L_212 kc_X12_rests (t_R_rests l hfl G on N v4 v5 z3.2 r ((fun z => (.inl (some (.int z.1)), z3.2, z.2)) z6) (by rw [hz]; rfl)) ⟨Nat.le_of_ble_eq_true rfl, Nat.le_of_ble_eq_true rfl⟩ hw (w_recvR E hw on) rfl hl.1 rfl (Nat.le_of_ble_eq_true rfl) dL_law__1708 ⟨by show c9 + 3 + 0 ≤ 601024; omega, by show d9 + 18 + 0 ≤ 7293034; omega⟩) hw rfl (by show c9 + 3 + 0 ≤ c9 + 3; omega) (by show d9 + 18 + 0 ≤ d9 + 18; omega) (fun H locs hw => ?_)
  refine W.eq (g2 := F0 m 1711 ls [.int z6.1]) rfl ?_
  have hw : w_W G z3.2 z6.2 s H locs := hw
  refine lv_istore (lv' := [(6, .int z6.1), (5, .int z3.1), (4, .int i9), (0, .ref b9), (1, .ref x9), (2, .ref (g_r G)), (3, .ref o9)]) hx hb dL_law__1711 hl (by decide) rfl (fun ls hl => ?_)
  refine lv_aload_n hx hb dL_law__1713 rfl (lv_at hl 5 rfl) ?_
  refine W_bind fun z7 hz => ?_
  refine w_after (cells1 := c9 + 3) (slots1 := d9 + 18) (w_runV E kV_L_136 kc_X12_thrown (t_R_thrown l hfl G on z3.2 z6.2 ((fun z => (.inl (some (.int z)), z3.2, z6.2)) z7) (by rw [hz]; rfl)) ⟨Nat.le_of_ble_eq_true rfl, Nat.le_of_ble_eq_true rfl⟩ hw (w_recvR E hw on) rfl hl.1 rfl (Nat.le_of_ble_eq_true rfl) dL_law__1714 ⟨by show c9 + 3 + 0 ≤ 601024; omega, by show d9 + 18 + 0 ≤ 7293034; omega⟩) hw rfl (by show c9 + 3 + 0 ≤ c9 + 3; omega) (by show d9 + 18 + 0 ≤ d9 + 18; omega) (fun H locs hw => ?_)
  refine W.eq (g2 := F0 m 1717 ls [.int z7]) rfl ?_
  have hw : w_W G z3.2 z6.2 s H locs := hw
  refine lv_iload hx hb dL_law__1717 (lv_at hl 1 rfl) ?_
  refine cx_icmp_eq (tgt := 1724) E dL_law__1719 (by decide) (fun _ => ?_) (fun _ => ?_)
  · refine lv_iload hx hb dL_law__1724 (lv_at hl 1 rfl) ?_
    refine cx_if_ne (tgt := 1741) E dL_law__1726 (by decide) (fun _ => ?_) (fun _ => ?_)
    · refine lv_goto (tgt := 2675) hx hb dL_law__1741 (by decide) ?_
      refine W.widen (k := c9 + 8) (n := d9 + 900) (by omega) (by omega) ?_
      exact hk z3.2 z6.2 _ _ _ hw (lv_sub hl [2, 3, 4, 5, 6] rfl)
    · refine lv_aload_n hx hb dL_law__1729 rfl (lv_at hl 6 rfl) ?_
      refine lv_iconst (v := 0) hx hb dL_law__1730 (by decide) ?_
      refine gx_lald E hw dL_law__1731 (fun v8 _ => ?_)
      refine lv_iload hx hb dL_law__1732 (lv_at hl 0 rfl) ?_
      refine lv_i2l (v := Int32.toInt64 z6.1) hx hb dL_law__1734 rfl ?_
      refine W.lcmp hx hb dL_law__1735 ?_
      refine cx_if_eq (tgt := 1741) E dL_law__1736 (by decide) (fun _ => ?_) (fun _ => ?_)
      · refine lv_goto (tgt := 2675) hx hb dL_law__1741 (by decide) ?_
        refine W.widen (k := c9 + 8) (n := d9 + 900) (by omega) (by omega) ?_
        exact hk z3.2 z6.2 _ _ _ hw (lv_sub hl [2, 3, 4, 5, 6] rfl)
      · refine lv_iconst (v := 0) hx hb dL_law__1739 (by decide) ?_
        exact W_none
  · refine lv_iconst (v := 0) hx hb dL_law__1722 (by decide) ?_
    exact W_none
set_option maxHeartbeats 4000000 in
set_option maxRecDepth 100000 in
theorem t_L_c25 {p : Program} {l : Launch} {e : Env} {s : State} {m : MethodId} {args : Array Value} {below : List Frame} {meth : Method} {c : Code} {H : Heap} {locs : List Loc} {ls : Array Slot} {G : wG} {M : Mem} {r : Rho} {xs : Nat → Int32} {L b9 x9 o9 c9 d9 N : Nat} {i9 : Int32} {kk : Mem → Rho → Option (Mem × Rho)} (hfl : l.stackTraces = false) (on : g_on G = true) (E : wE G p l s m args meth c cL_law_ "CheekTownLaw" 7) (hX : va_X b9 L xs s s.heap) (hbl : b9 < s.heap.size) (hbA : ¬ g_A G b9) (hw : w_W G M r s H locs) (hl : lv_has ls 7 [(4, .int i9), (0, .ref b9), (1, .ref x9), (2, .ref (g_r G)), (3, .ref o9)]) (hc : c9 + 8 ≤ 601024) (hd : d9 + 900 ≤ 7293034) (hk : ∀ (M : Mem) (r : Rho) (H : Heap) (locs : List Loc) (ls : Array Slot), w_W G M r s H locs → lv_has ls 7 [(4, .int i9), (0, .ref b9), (1, .ref x9), (2, .ref (g_r G)), (3, .ref o9)] → W p l e room_1 s m args below meth c H locs (c9 + 8) (d9 + 900) (PQ G below args s 601024 7293034 (fun z : Mem × Rho => (.inl (some (.int 1)), z)) (kk M r)) (F0 m 2675 ls [])) : W p l e room_1 s m args below meth c H locs c9 d9 (PQ G below args s 601024 7293034 (fun z : Mem × Rho => (.inl (some (.int 1)), z)) (f_L_c25 N xs L x9 o9 i9 M r kk)) (F0 m 1744 ls []) := by
  obtain ⟨hx, hb, hts, hown, hml, hTT, -⟩ := id E
  unfold f_L_c25
  refine lv_aload_n hx hb dL_law__1744 rfl (lv_at hl 2 rfl) ?_
  refine lv_aload_n hx hb dL_law__1745 rfl (lv_at hl 1 rfl) ?_
  refine lv_iload hx hb dL_law__1746 (lv_at hl 0 rfl) ?_
  refine lv_iconst (v := 1) hx hb dL_law__1748 (by decide) ?_
  refine lv_iadd hx hb dL_law__1749 ?_
  refine gx_sld E hw hX hbl hbA dL_law__1750 (fun v1 => ?_)
  refine lv_aload_n hx hb dL_law__1751 rfl (lv_at hl 1 rfl) ?_
  refine lv_iload hx hb dL_law__1752 (lv_at hl 0 rfl) ?_
  refine lv_iconst (v := 2) hx hb dL_law__1754 (by decide) ?_
  refine lv_iadd hx hb dL_law__1755 ?_
  refine gx_sld E hw hX hbl hbA dL_law__1756 (fun v2 => ?_)
  refine lv_aload_n hx hb dL_law__1757 rfl (lv_at hl 1 rfl) ?_
  refine lv_iload hx hb dL_law__1758 (lv_at hl 0 rfl) ?_
  refine lv_iconst (v := 3) hx hb dL_law__1760 (by decide) ?_
  refine lv_iadd hx hb dL_law__1761 ?_
  refine gx_sld E hw hX hbl hbA dL_law__1762 (fun v3 => ?_)
  refine gx_flag E dL_law__1763 dL_law__1766 dL_law__1767 dL_law__1770 ?_
  refine W.eq (g2 := F0 m 1771 ls [.int (bz v3), .int v2, .int v1, .ref x9]) rfl ?_
  refine lv_aload_n hx hb dL_law__1771 rfl (lv_at hl 4 rfl) ?_
  refine W_bind fun z4 hz => ?_
  refine w_after (cells1 := c9 + 3) (slots1 := d9 + 18) (w_runSH E kS_L_213 kcH_L_sake (t_L_sake l hfl G x9 v1 v2 (bz v3) o9 M r ((fun z => (.inl (some (.int z.1)), z.2, r)) z4) (by rw [hz]; rfl)) ⟨Nat.le_of_ble_eq_true rfl, Nat.le_of_ble_eq_true rfl⟩ hw rfl hl.1 rfl (Nat.le_of_ble_eq_true rfl) dL_law__1772 ⟨by show c9 + 0 + 3 ≤ 601024; omega, by show d9 + 0 + 18 ≤ 7293034; omega⟩) hw rfl (by show c9 + 0 + 3 ≤ c9 + 3; omega) (by show d9 + 0 + 18 ≤ d9 + 18; omega) (fun H locs hw => ?_)
  refine W.eq (g2 := F0 m 1775 ls [.int z4.1]) rfl ?_
  have hw : w_W G z4.2 r s H locs := hw
  refine lv_istore (lv' := [(5, .int z4.1), (4, .int i9), (0, .ref b9), (1, .ref x9), (2, .ref (g_r G)), (3, .ref o9)]) hx hb dL_law__1775 hl (by decide) rfl (fun ls hl => ?_)
  refine lv_aload_n hx hb dL_law__1777 rfl (lv_at hl 4 rfl) ?_
  refine lv_aload_n hx hb dL_law__1778 rfl (lv_at hl 2 rfl) ?_
  refine lv_iload hx hb dL_law__1779 (lv_at hl 1 rfl) ?_
  refine lv_iconst (v := 1) hx hb dL_law__1781 (by decide) ?_
  refine lv_iadd hx hb dL_law__1782 ?_
  refine gx_sld E hw hX hbl hbA dL_law__1783 (fun v5 => ?_)
  refine lv_aload_n hx hb dL_law__1784 rfl (lv_at hl 2 rfl) ?_
  refine lv_iload hx hb dL_law__1785 (lv_at hl 1 rfl) ?_
  refine lv_iconst (v := 2) hx hb dL_law__1787 (by decide) ?_
  refine lv_iadd hx hb dL_law__1788 ?_
  refine gx_sld E hw hX hbl hbA dL_law__1789 (fun v6 => ?_)
  refine lv_aload_n hx hb dL_law__1790 rfl (lv_at hl 2 rfl) ?_
  refine lv_iload hx hb dL_law__1791 (lv_at hl 1 rfl) ?_
  refine lv_iconst (v := 3) hx hb dL_law__1793 (by decide) ?_
  refine lv_iadd hx hb dL_law__1794 ?_
  refine gx_sld E hw hX hbl hbA dL_law__1795 (fun v7 => ?_)
  refine gx_flag E dL_law__1796 dL_law__1799 dL_law__1800 dL_law__1803 ?_
  refine W.eq (g2 := F0 m 1804 ls [.int (bz v7), .int v6, .int v5, .ref (g_r G)]) rfl ?_
  refine W_bind fun z8 hz => ?_
  refine w_after (cells1 := c9 + 3) (slots1 := d9 + 18) (w_runV E kV_L_215 kc_X12_sake (t_R_sake l hfl G on N v5 v6 (bz v7) z4.2 r ((fun z => (.inl (some (.int z.1)), z4.2, z.2)) z8) (by rw [hz]; rfl)) ⟨Nat.le_of_ble_eq_true rfl, Nat.le_of_ble_eq_true rfl⟩ hw (w_recvR E hw on) rfl hl.1 rfl (Nat.le_of_ble_eq_true rfl) dL_law__1804 ⟨by show c9 + 3 + 0 ≤ 601024; omega, by show d9 + 18 + 0 ≤ 7293034; omega⟩) hw rfl (by show c9 + 3 + 0 ≤ c9 + 3; omega) (by show d9 + 18 + 0 ≤ d9 + 18; omega) (fun H locs hw => ?_)
  refine W.eq (g2 := F0 m 1807 ls [.int z8.1]) rfl ?_
  have hw : w_W G z4.2 z8.2 s H locs := hw
  refine lv_istore (lv' := [(6, .int z8.1), (5, .int z4.1), (4, .int i9), (0, .ref b9), (1, .ref x9), (2, .ref (g_r G)), (3, .ref o9)]) hx hb dL_law__1807 hl (by decide) rfl (fun ls hl => ?_)
  refine lv_aload_n hx hb dL_law__1809 rfl (lv_at hl 5 rfl) ?_
  refine W_bind fun z9 hz => ?_
  refine w_after (cells1 := c9 + 3) (slots1 := d9 + 18) (w_runV E kV_L_136 kc_X12_thrown (t_R_thrown l hfl G on z4.2 z8.2 ((fun z => (.inl (some (.int z)), z4.2, z8.2)) z9) (by rw [hz]; rfl)) ⟨Nat.le_of_ble_eq_true rfl, Nat.le_of_ble_eq_true rfl⟩ hw (w_recvR E hw on) rfl hl.1 rfl (Nat.le_of_ble_eq_true rfl) dL_law__1810 ⟨by show c9 + 3 + 0 ≤ 601024; omega, by show d9 + 18 + 0 ≤ 7293034; omega⟩) hw rfl (by show c9 + 3 + 0 ≤ c9 + 3; omega) (by show d9 + 18 + 0 ≤ d9 + 18; omega) (fun H locs hw => ?_)
  refine W.eq (g2 := F0 m 1813 ls [.int z9]) rfl ?_
  have hw : w_W G z4.2 z8.2 s H locs := hw
  refine lv_iload hx hb dL_law__1813 (lv_at hl 1 rfl) ?_
  refine cx_icmp_eq (tgt := 1820) E dL_law__1815 (by decide) (fun _ => ?_) (fun _ => ?_)
  · refine lv_iload hx hb dL_law__1820 (lv_at hl 1 rfl) ?_
    refine cx_if_ne (tgt := 1837) E dL_law__1822 (by decide) (fun _ => ?_) (fun _ => ?_)
    · refine lv_goto (tgt := 2675) hx hb dL_law__1837 (by decide) ?_
      refine W.widen (k := c9 + 8) (n := d9 + 900) (by omega) (by omega) ?_
      exact hk z4.2 z8.2 _ _ _ hw (lv_sub hl [2, 3, 4, 5, 6] rfl)
    · refine lv_aload_n hx hb dL_law__1825 rfl (lv_at hl 6 rfl) ?_
      refine lv_iconst (v := 0) hx hb dL_law__1826 (by decide) ?_
      refine gx_lald E hw dL_law__1827 (fun v10 _ => ?_)
      refine lv_iload hx hb dL_law__1828 (lv_at hl 0 rfl) ?_
      refine lv_i2l (v := Int32.toInt64 z8.1) hx hb dL_law__1830 rfl ?_
      refine W.lcmp hx hb dL_law__1831 ?_
      refine cx_if_eq (tgt := 1837) E dL_law__1832 (by decide) (fun _ => ?_) (fun _ => ?_)
      · refine lv_goto (tgt := 2675) hx hb dL_law__1837 (by decide) ?_
        refine W.widen (k := c9 + 8) (n := d9 + 900) (by omega) (by omega) ?_
        exact hk z4.2 z8.2 _ _ _ hw (lv_sub hl [2, 3, 4, 5, 6] rfl)
      · refine lv_iconst (v := 0) hx hb dL_law__1835 (by decide) ?_
        exact W_none
  · refine lv_iconst (v := 0) hx hb dL_law__1818 (by decide) ?_
    exact W_none
set_option maxHeartbeats 4000000 in
set_option maxRecDepth 100000 in
theorem t_L_c26 {p : Program} {l : Launch} {e : Env} {s : State} {m : MethodId} {args : Array Value} {below : List Frame} {meth : Method} {c : Code} {H : Heap} {locs : List Loc} {ls : Array Slot} {G : wG} {M : Mem} {r : Rho} {xs : Nat → Int32} {L b9 x9 o9 c9 d9 N : Nat} {i9 : Int32} {kk : Mem → Rho → Option (Mem × Rho)} (hfl : l.stackTraces = false) (on : g_on G = true) (E : wE G p l s m args meth c cL_law_ "CheekTownLaw" 7) (hX : va_X b9 L xs s s.heap) (hbl : b9 < s.heap.size) (hbA : ¬ g_A G b9) (hw : w_W G M r s H locs) (hl : lv_has ls 7 [(4, .int i9), (0, .ref b9), (1, .ref x9), (2, .ref (g_r G)), (3, .ref o9)]) (hc : c9 + 8 ≤ 601024) (hd : d9 + 900 ≤ 7293034) (hk : ∀ (M : Mem) (r : Rho) (H : Heap) (locs : List Loc) (ls : Array Slot), w_W G M r s H locs → lv_has ls 7 [(4, .int i9), (0, .ref b9), (1, .ref x9), (2, .ref (g_r G)), (3, .ref o9)] → W p l e room_1 s m args below meth c H locs (c9 + 8) (d9 + 900) (PQ G below args s 601024 7293034 (fun z : Mem × Rho => (.inl (some (.int 1)), z)) (kk M r)) (F0 m 2675 ls [])) : W p l e room_1 s m args below meth c H locs c9 d9 (PQ G below args s 601024 7293034 (fun z : Mem × Rho => (.inl (some (.int 1)), z)) (f_L_c26 N xs L x9 o9 i9 M r kk)) (F0 m 1840 ls []) := by
  obtain ⟨hx, hb, hts, hown, hml, hTT, -⟩ := id E
  unfold f_L_c26
  refine lv_aload_n hx hb dL_law__1840 rfl (lv_at hl 2 rfl) ?_
  refine lv_aload_n hx hb dL_law__1841 rfl (lv_at hl 1 rfl) ?_
  refine lv_iload hx hb dL_law__1842 (lv_at hl 0 rfl) ?_
  refine lv_iconst (v := 1) hx hb dL_law__1844 (by decide) ?_
  refine lv_iadd hx hb dL_law__1845 ?_
  refine gx_sld E hw hX hbl hbA dL_law__1846 (fun v1 => ?_)
  refine lv_aload_n hx hb dL_law__1847 rfl (lv_at hl 1 rfl) ?_
  refine lv_iload hx hb dL_law__1848 (lv_at hl 0 rfl) ?_
  refine lv_iconst (v := 2) hx hb dL_law__1850 (by decide) ?_
  refine lv_iadd hx hb dL_law__1851 ?_
  refine gx_sld E hw hX hbl hbA dL_law__1852 (fun v2 => ?_)
  refine W_bind fun _ hck => ?_
  refine W_bind fun z3 hz => ?_
  refine w_after (cells1 := c9 + 0) (slots1 := d9 + 0) (w_runV E kV_L_216 kc_X11_table (t_CT_table l hfl G N x9 v1 v2 M r ((fun z => (.inl (some (.int z.1)), z.2, r)) z3) (by rw [hz]; rfl)) ⟨Nat.le_of_ble_eq_true rfl, Nat.le_of_ble_eq_true rfl⟩ hw (w_recv E hw (by decide) ⟨_, _, rfl⟩ (ck_ok hck)) rfl hl.1 rfl (Nat.le_of_ble_eq_true rfl) dL_law__1853 ⟨by show c9 + 0 + 0 ≤ 601024; omega, by show d9 + 0 + 0 ≤ 7293034; omega⟩) hw rfl (by show c9 + 0 + 0 ≤ c9 + 0; omega) (by show d9 + 0 + 0 ≤ d9 + 0; omega) (fun H locs hw => ?_)
  refine W.eq (g2 := F0 m 1856 ls [.int z3.1]) rfl ?_
  have hw : w_W G z3.2 r s H locs := hw
  refine lv_aload_n hx hb dL_law__1856 rfl (lv_at hl 3 rfl) ?_
  refine lv_aload_n hx hb dL_law__1857 rfl (lv_at hl 1 rfl) ?_
  refine lv_iload hx hb dL_law__1858 (lv_at hl 0 rfl) ?_
  refine lv_iconst (v := 1) hx hb dL_law__1860 (by decide) ?_
  refine lv_iadd hx hb dL_law__1861 ?_
  refine gx_sld E hw hX hbl hbA dL_law__1862 (fun v4 => ?_)
  refine lv_aload_n hx hb dL_law__1863 rfl (lv_at hl 1 rfl) ?_
  refine lv_iload hx hb dL_law__1864 (lv_at hl 0 rfl) ?_
  refine lv_iconst (v := 2) hx hb dL_law__1866 (by decide) ?_
  refine lv_iadd hx hb dL_law__1867 ?_
  refine gx_sld E hw hX hbl hbA dL_law__1868 (fun v5 => ?_)
  refine W_bind fun z6 hz => ?_
  refine w_after (cells1 := c9 + 0) (slots1 := d9 + 0) (w_runV E kV_L_219 kc_X12_table (t_R_table l hfl G on N v4 v5 z3.2 r ((fun z => (.inl (some (.int z.1)), z3.2, z.2)) z6) (by rw [hz]; rfl)) ⟨Nat.le_of_ble_eq_true rfl, Nat.le_of_ble_eq_true rfl⟩ hw (w_recvR E hw on) rfl hl.1 rfl (Nat.le_of_ble_eq_true rfl) dL_law__1869 ⟨by show c9 + 0 + 0 ≤ 601024; omega, by show d9 + 0 + 0 ≤ 7293034; omega⟩) hw rfl (by show c9 + 0 + 0 ≤ c9 + 0; omega) (by show d9 + 0 + 0 ≤ d9 + 0; omega) (fun H locs hw => ?_)
  refine W.eq (g2 := F0 m 1872 ls [.int z6.1, .int z3.1]) rfl ?_
  have hw : w_W G z3.2 z6.2 s H locs := hw
  refine cx_icmp_eq (tgt := 2675) E dL_law__1872 (by decide) (fun _ => ?_) (fun _ => ?_)
  · refine W.widen (k := c9 + 8) (n := d9 + 900) (by omega) (by omega) ?_
    exact hk z3.2 z6.2 _ _ _ hw (lv_sub hl [0, 1, 2, 3, 4] rfl)
  · refine lv_iconst (v := 0) hx hb dL_law__1875 (by decide) ?_
    exact W_none
set_option maxHeartbeats 4000000 in
set_option maxRecDepth 100000 in
theorem t_L_c27 {p : Program} {l : Launch} {e : Env} {s : State} {m : MethodId} {args : Array Value} {below : List Frame} {meth : Method} {c : Code} {H : Heap} {locs : List Loc} {ls : Array Slot} {G : wG} {M : Mem} {r : Rho} {xs : Nat → Int32} {L b9 x9 o9 c9 d9 N : Nat} {i9 : Int32} {kk : Mem → Rho → Option (Mem × Rho)} (hfl : l.stackTraces = false) (on : g_on G = true) (E : wE G p l s m args meth c cL_law_ "CheekTownLaw" 7) (hX : va_X b9 L xs s s.heap) (hbl : b9 < s.heap.size) (hbA : ¬ g_A G b9) (hw : w_W G M r s H locs) (hl : lv_has ls 7 [(4, .int i9), (0, .ref b9), (1, .ref x9), (2, .ref (g_r G)), (3, .ref o9)]) (hc : c9 + 8 ≤ 601024) (hd : d9 + 900 ≤ 7293034) (hk : ∀ (M : Mem) (r : Rho) (H : Heap) (locs : List Loc) (ls : Array Slot), w_W G M r s H locs → lv_has ls 7 [(4, .int i9), (0, .ref b9), (1, .ref x9), (2, .ref (g_r G)), (3, .ref o9)] → W p l e room_1 s m args below meth c H locs (c9 + 8) (d9 + 900) (PQ G below args s 601024 7293034 (fun z : Mem × Rho => (.inl (some (.int 1)), z)) (kk M r)) (F0 m 2675 ls [])) : W p l e room_1 s m args below meth c H locs c9 d9 (PQ G below args s 601024 7293034 (fun z : Mem × Rho => (.inl (some (.int 1)), z)) (f_L_c27 N xs L x9 o9 i9 M r kk)) (F0 m 1877 ls []) := by
  obtain ⟨hx, hb, hts, hown, hml, hTT, -⟩ := id E
  unfold f_L_c27
  refine lv_aload_n hx hb dL_law__1877 rfl (lv_at hl 2 rfl) ?_
  refine lv_aload_n hx hb dL_law__1878 rfl (lv_at hl 1 rfl) ?_
  refine lv_iload hx hb dL_law__1879 (lv_at hl 0 rfl) ?_
  refine lv_iconst (v := 1) hx hb dL_law__1881 (by decide) ?_
  refine lv_iadd hx hb dL_law__1882 ?_
  refine gx_sld E hw hX hbl hbA dL_law__1883 (fun v1 => ?_)
  refine gx_flag E dL_law__1884 dL_law__1887 dL_law__1888 dL_law__1891 ?_
  refine W.eq (g2 := F0 m 1892 ls [.int (bz v1), .ref x9]) rfl ?_
  refine W_bind fun _ hck => ?_
  refine W_bind fun z2 hz => ?_
  refine w_after (cells1 := c9 + 0) (slots1 := d9 + 0) (w_runV E kV_L_220 kc_X11_pairs (t_CT_pairs l hfl G N x9 (bz v1) M r ((fun z => (.inl (some (.int z)), M, r)) z2) (by rw [hz]; rfl)) ⟨Nat.le_of_ble_eq_true rfl, Nat.le_of_ble_eq_true rfl⟩ hw (w_recv E hw (by decide) ⟨_, _, rfl⟩ (ck_ok hck)) rfl hl.1 rfl (Nat.le_of_ble_eq_true rfl) dL_law__1892 ⟨by show c9 + 0 + 0 ≤ 601024; omega, by show d9 + 0 + 0 ≤ 7293034; omega⟩) hw rfl (by show c9 + 0 + 0 ≤ c9 + 0; omega) (by show d9 + 0 + 0 ≤ d9 + 0; omega) (fun H locs hw => ?_)
  refine W.eq (g2 := F0 m 1895 ls [.int z2]) rfl ?_
  have hw : w_W G M r s H locs := hw
  refine lv_aload_n hx hb dL_law__1895 rfl (lv_at hl 3 rfl) ?_
  refine lv_aload_n hx hb dL_law__1896 rfl (lv_at hl 1 rfl) ?_
  refine lv_iload hx hb dL_law__1897 (lv_at hl 0 rfl) ?_
  refine lv_iconst (v := 1) hx hb dL_law__1899 (by decide) ?_
  refine lv_iadd hx hb dL_law__1900 ?_
  refine gx_sld E hw hX hbl hbA dL_law__1901 (fun v3 => ?_)
  refine gx_flag E dL_law__1902 dL_law__1905 dL_law__1906 dL_law__1909 ?_
  refine W.eq (g2 := F0 m 1910 ls [.int (bz v3), .ref (g_r G), .int z2]) rfl ?_
  refine W_bind fun z4 hz => ?_
  refine w_after (cells1 := c9 + 0) (slots1 := d9 + 0) (w_runV E kV_L_223 kc_X12_pairs (t_R_pairs l hfl G on N (bz v3) M r ((fun z => (.inl (some (.int z.1)), M, z.2)) z4) (by rw [hz]; rfl)) ⟨Nat.le_of_ble_eq_true rfl, Nat.le_of_ble_eq_true rfl⟩ hw (w_recvR E hw on) rfl hl.1 rfl (Nat.le_of_ble_eq_true rfl) dL_law__1910 ⟨by show c9 + 0 + 0 ≤ 601024; omega, by show d9 + 0 + 0 ≤ 7293034; omega⟩) hw rfl (by show c9 + 0 + 0 ≤ c9 + 0; omega) (by show d9 + 0 + 0 ≤ d9 + 0; omega) (fun H locs hw => ?_)
  refine W.eq (g2 := F0 m 1913 ls [.int z4.1, .int z2]) rfl ?_
  have hw : w_W G M z4.2 s H locs := hw
  refine cx_icmp_eq (tgt := 2675) E dL_law__1913 (by decide) (fun _ => ?_) (fun _ => ?_)
  · refine W.widen (k := c9 + 8) (n := d9 + 900) (by omega) (by omega) ?_
    exact hk M z4.2 _ _ _ hw (lv_sub hl [0, 1, 2, 3, 4] rfl)
  · refine lv_iconst (v := 0) hx hb dL_law__1916 (by decide) ?_
    exact W_none
set_option maxHeartbeats 4000000 in
set_option maxRecDepth 100000 in
theorem t_L_c28 {p : Program} {l : Launch} {e : Env} {s : State} {m : MethodId} {args : Array Value} {below : List Frame} {meth : Method} {c : Code} {H : Heap} {locs : List Loc} {ls : Array Slot} {G : wG} {M : Mem} {r : Rho} {xs : Nat → Int32} {L b9 x9 o9 c9 d9 N : Nat} {i9 : Int32} {kk : Mem → Rho → Option (Mem × Rho)} (hfl : l.stackTraces = false) (on : g_on G = true) (E : wE G p l s m args meth c cL_law_ "CheekTownLaw" 7) (hX : va_X b9 L xs s s.heap) (hbl : b9 < s.heap.size) (hbA : ¬ g_A G b9) (hw : w_W G M r s H locs) (hl : lv_has ls 7 [(4, .int i9), (0, .ref b9), (1, .ref x9), (2, .ref (g_r G)), (3, .ref o9)]) (hc : c9 + 8 ≤ 601024) (hd : d9 + 900 ≤ 7293034) (hk : ∀ (M : Mem) (r : Rho) (H : Heap) (locs : List Loc) (ls : Array Slot), w_W G M r s H locs → lv_has ls 7 [(4, .int i9), (0, .ref b9), (1, .ref x9), (2, .ref (g_r G)), (3, .ref o9)] → W p l e room_1 s m args below meth c H locs (c9 + 8) (d9 + 900) (PQ G below args s 601024 7293034 (fun z : Mem × Rho => (.inl (some (.int 1)), z)) (kk M r)) (F0 m 2675 ls [])) : W p l e room_1 s m args below meth c H locs c9 d9 (PQ G below args s 601024 7293034 (fun z : Mem × Rho => (.inl (some (.int 1)), z)) (f_L_c28 N xs L x9 o9 i9 M r kk)) (F0 m 1918 ls []) := by
  obtain ⟨hx, hb, hts, hown, hml, hTT, -⟩ := id E
  unfold f_L_c28
  refine lv_aload_n hx hb dL_law__1918 rfl (lv_at hl 2 rfl) ?_
  refine lv_aload_n hx hb dL_law__1919 rfl (lv_at hl 1 rfl) ?_
  refine lv_iload hx hb dL_law__1920 (lv_at hl 0 rfl) ?_
  refine lv_iconst (v := 1) hx hb dL_law__1922 (by decide) ?_
  refine lv_iadd hx hb dL_law__1923 ?_
  refine gx_sld E hw hX hbl hbA dL_law__1924 (fun v1 => ?_)
  refine lv_aload_n hx hb dL_law__1925 rfl (lv_at hl 4 rfl) ?_
  refine W_bind fun z2 hz => ?_
  refine w_after (cells1 := c9 + 1) (slots1 := d9 + 6) (w_runSH E kS_L_224 kcH_L_begins (t_L_begins l hfl G N x9 v1 o9 M r ((fun z => (.inl (some (.int z.1)), z.2, r)) z2) (by rw [hz]; rfl)) ⟨Nat.le_of_ble_eq_true rfl, Nat.le_of_ble_eq_true rfl⟩ hw rfl hl.1 rfl (Nat.le_of_ble_eq_true rfl) dL_law__1926 ⟨by show c9 + 0 + 1 ≤ 601024; omega, by show d9 + 0 + 6 ≤ 7293034; omega⟩) hw rfl (by show c9 + 0 + 1 ≤ c9 + 1; omega) (by show d9 + 0 + 6 ≤ d9 + 6; omega) (fun H locs hw => ?_)
  refine W.eq (g2 := F0 m 1929 ls [.int z2.1]) rfl ?_
  have hw : w_W G z2.2 r s H locs := hw
  refine lv_istore (lv' := [(5, .int z2.1), (4, .int i9), (0, .ref b9), (1, .ref x9), (2, .ref (g_r G)), (3, .ref o9)]) hx hb dL_law__1929 hl (by decide) rfl (fun ls hl => ?_)
  refine lv_aload_n hx hb dL_law__1931 rfl (lv_at hl 4 rfl) ?_
  refine lv_aload_n hx hb dL_law__1932 rfl (lv_at hl 2 rfl) ?_
  refine lv_iload hx hb dL_law__1933 (lv_at hl 1 rfl) ?_
  refine lv_iconst (v := 1) hx hb dL_law__1935 (by decide) ?_
  refine lv_iadd hx hb dL_law__1936 ?_
  refine gx_sld E hw hX hbl hbA dL_law__1937 (fun v3 => ?_)
  refine W_bind fun z4 hz => ?_
  refine w_after (cells1 := c9 + 1) (slots1 := d9 + 6) (w_runV E kV_L_226 kc_X12_begins_ (t_R_begins_ l hfl G on N v3 z2.2 r ((fun z => (.inl (some (.int z.1)), z2.2, z.2)) z4) (by rw [hz]; rfl)) ⟨Nat.le_of_ble_eq_true rfl, Nat.le_of_ble_eq_true rfl⟩ hw (w_recvR E hw on) rfl hl.1 rfl (Nat.le_of_ble_eq_true rfl) dL_law__1938 ⟨by show c9 + 1 + 0 ≤ 601024; omega, by show d9 + 6 + 0 ≤ 7293034; omega⟩) hw rfl (by show c9 + 1 + 0 ≤ c9 + 1; omega) (by show d9 + 6 + 0 ≤ d9 + 6; omega) (fun H locs hw => ?_)
  refine W.eq (g2 := F0 m 1941 ls [.int z4.1]) rfl ?_
  have hw : w_W G z2.2 z4.2 s H locs := hw
  refine lv_istore (lv' := [(6, .int z4.1), (5, .int z2.1), (4, .int i9), (0, .ref b9), (1, .ref x9), (2, .ref (g_r G)), (3, .ref o9)]) hx hb dL_law__1941 hl (by decide) rfl (fun ls hl => ?_)
  refine lv_aload_n hx hb dL_law__1943 rfl (lv_at hl 5 rfl) ?_
  refine W_bind fun z5 hz => ?_
  refine w_after (cells1 := c9 + 1) (slots1 := d9 + 6) (w_runV E kV_L_136 kc_X12_thrown (t_R_thrown l hfl G on z2.2 z4.2 ((fun z => (.inl (some (.int z)), z2.2, z4.2)) z5) (by rw [hz]; rfl)) ⟨Nat.le_of_ble_eq_true rfl, Nat.le_of_ble_eq_true rfl⟩ hw (w_recvR E hw on) rfl hl.1 rfl (Nat.le_of_ble_eq_true rfl) dL_law__1944 ⟨by show c9 + 1 + 0 ≤ 601024; omega, by show d9 + 6 + 0 ≤ 7293034; omega⟩) hw rfl (by show c9 + 1 + 0 ≤ c9 + 1; omega) (by show d9 + 6 + 0 ≤ d9 + 6; omega) (fun H locs hw => ?_)
  refine W.eq (g2 := F0 m 1947 ls [.int z5]) rfl ?_
  have hw : w_W G z2.2 z4.2 s H locs := hw
  refine lv_iload hx hb dL_law__1947 (lv_at hl 1 rfl) ?_
  refine cx_icmp_eq (tgt := 1954) E dL_law__1949 (by decide) (fun _ => ?_) (fun _ => ?_)
  · refine lv_iload hx hb dL_law__1954 (lv_at hl 1 rfl) ?_
    refine cx_if_ne (tgt := 1971) E dL_law__1956 (by decide) (fun _ => ?_) (fun _ => ?_)
    · refine lv_goto (tgt := 2675) hx hb dL_law__1971 (by decide) ?_
      refine W.widen (k := c9 + 8) (n := d9 + 900) (by omega) (by omega) ?_
      exact hk z2.2 z4.2 _ _ _ hw (lv_sub hl [2, 3, 4, 5, 6] rfl)
    · refine lv_aload_n hx hb dL_law__1959 rfl (lv_at hl 6 rfl) ?_
      refine lv_iconst (v := 0) hx hb dL_law__1960 (by decide) ?_
      refine gx_lald E hw dL_law__1961 (fun v6 _ => ?_)
      refine lv_iload hx hb dL_law__1962 (lv_at hl 0 rfl) ?_
      refine lv_i2l (v := Int32.toInt64 z4.1) hx hb dL_law__1964 rfl ?_
      refine W.lcmp hx hb dL_law__1965 ?_
      refine cx_if_eq (tgt := 1971) E dL_law__1966 (by decide) (fun _ => ?_) (fun _ => ?_)
      · refine lv_goto (tgt := 2675) hx hb dL_law__1971 (by decide) ?_
        refine W.widen (k := c9 + 8) (n := d9 + 900) (by omega) (by omega) ?_
        exact hk z2.2 z4.2 _ _ _ hw (lv_sub hl [2, 3, 4, 5, 6] rfl)
      · refine lv_iconst (v := 0) hx hb dL_law__1969 (by decide) ?_
        exact W_none
  · refine lv_iconst (v := 0) hx hb dL_law__1952 (by decide) ?_
    exact W_none
set_option maxHeartbeats 4000000 in
set_option maxRecDepth 100000 in
theorem t_L_c29 {p : Program} {l : Launch} {e : Env} {s : State} {m : MethodId} {args : Array Value} {below : List Frame} {meth : Method} {c : Code} {H : Heap} {locs : List Loc} {ls : Array Slot} {G : wG} {M : Mem} {r : Rho} {xs : Nat → Int32} {L b9 x9 o9 c9 d9 N : Nat} {i9 : Int32} {kk : Mem → Rho → Option (Mem × Rho)} (hfl : l.stackTraces = false) (on : g_on G = true) (E : wE G p l s m args meth c cL_law_ "CheekTownLaw" 7) (hX : va_X b9 L xs s s.heap) (hbl : b9 < s.heap.size) (hbA : ¬ g_A G b9) (hw : w_W G M r s H locs) (hl : lv_has ls 7 [(4, .int i9), (0, .ref b9), (1, .ref x9), (2, .ref (g_r G)), (3, .ref o9)]) (hc : c9 + 8 ≤ 601024) (hd : d9 + 900 ≤ 7293034) (hk : ∀ (M : Mem) (r : Rho) (H : Heap) (locs : List Loc) (ls : Array Slot), w_W G M r s H locs → lv_has ls 7 [(4, .int i9), (0, .ref b9), (1, .ref x9), (2, .ref (g_r G)), (3, .ref o9)] → W p l e room_1 s m args below meth c H locs (c9 + 8) (d9 + 900) (PQ G below args s 601024 7293034 (fun z : Mem × Rho => (.inl (some (.int 1)), z)) (kk M r)) (F0 m 2675 ls [])) : W p l e room_1 s m args below meth c H locs c9 d9 (PQ G below args s 601024 7293034 (fun z : Mem × Rho => (.inl (some (.int 1)), z)) (f_L_c29 N xs L x9 o9 i9 M r kk)) (F0 m 1974 ls []) := by
  obtain ⟨hx, hb, hts, hown, hml, hTT, -⟩ := id E
  unfold f_L_c29
  refine lv_aload_n hx hb dL_law__1974 rfl (lv_at hl 2 rfl) ?_
  refine lv_aload_n hx hb dL_law__1975 rfl (lv_at hl 1 rfl) ?_
  refine lv_iload hx hb dL_law__1976 (lv_at hl 0 rfl) ?_
  refine lv_iconst (v := 1) hx hb dL_law__1978 (by decide) ?_
  refine lv_iadd hx hb dL_law__1979 ?_
  refine gx_sld E hw hX hbl hbA dL_law__1980 (fun v1 => ?_)
  refine lv_aload_n hx hb dL_law__1981 rfl (lv_at hl 1 rfl) ?_
  refine lv_iload hx hb dL_law__1982 (lv_at hl 0 rfl) ?_
  refine lv_iconst (v := 2) hx hb dL_law__1984 (by decide) ?_
  refine lv_iadd hx hb dL_law__1985 ?_
  refine gx_sld E hw hX hbl hbA dL_law__1986 (fun v2 => ?_)
  refine lv_aload_n hx hb dL_law__1987 rfl (lv_at hl 4 rfl) ?_
  refine W_bind fun z3 hz => ?_
  refine w_after (cells1 := c9 + 2) (slots1 := d9 + 12) (w_runSH E kS_L_227 kcH_L_after (t_L_after l hfl G N x9 v1 v2 o9 M r ((fun z => (.inl (some (.int z.1)), z.2, r)) z3) (by rw [hz]; rfl)) ⟨Nat.le_of_ble_eq_true rfl, Nat.le_of_ble_eq_true rfl⟩ hw rfl hl.1 rfl (Nat.le_of_ble_eq_true rfl) dL_law__1988 ⟨by show c9 + 0 + 2 ≤ 601024; omega, by show d9 + 0 + 12 ≤ 7293034; omega⟩) hw rfl (by show c9 + 0 + 2 ≤ c9 + 2; omega) (by show d9 + 0 + 12 ≤ d9 + 12; omega) (fun H locs hw => ?_)
  refine W.eq (g2 := F0 m 1991 ls [.int z3.1]) rfl ?_
  have hw : w_W G z3.2 r s H locs := hw
  refine lv_istore (lv' := [(5, .int z3.1), (4, .int i9), (0, .ref b9), (1, .ref x9), (2, .ref (g_r G)), (3, .ref o9)]) hx hb dL_law__1991 hl (by decide) rfl (fun ls hl => ?_)
  refine lv_aload_n hx hb dL_law__1993 rfl (lv_at hl 4 rfl) ?_
  refine lv_aload_n hx hb dL_law__1994 rfl (lv_at hl 2 rfl) ?_
  refine lv_iload hx hb dL_law__1995 (lv_at hl 1 rfl) ?_
  refine lv_iconst (v := 1) hx hb dL_law__1997 (by decide) ?_
  refine lv_iadd hx hb dL_law__1998 ?_
  refine gx_sld E hw hX hbl hbA dL_law__1999 (fun v4 => ?_)
  refine lv_aload_n hx hb dL_law__2000 rfl (lv_at hl 2 rfl) ?_
  refine lv_iload hx hb dL_law__2001 (lv_at hl 1 rfl) ?_
  refine lv_iconst (v := 2) hx hb dL_law__2003 (by decide) ?_
  refine lv_iadd hx hb dL_law__2004 ?_
  refine gx_sld E hw hX hbl hbA dL_law__2005 (fun v5 => ?_)
  refine W_bind fun z6 hz => ?_
  refine w_after (cells1 := c9 + 2) (slots1 := d9 + 12) (w_runV E kV_L_229 kc_X12_after (t_R_after l hfl G on N v4 v5 z3.2 r ((fun z => (.inl (some (.int z.1)), z3.2, z.2)) z6) (by rw [hz]; rfl)) ⟨Nat.le_of_ble_eq_true rfl, Nat.le_of_ble_eq_true rfl⟩ hw (w_recvR E hw on) rfl hl.1 rfl (Nat.le_of_ble_eq_true rfl) dL_law__2006 ⟨by show c9 + 2 + 0 ≤ 601024; omega, by show d9 + 12 + 0 ≤ 7293034; omega⟩) hw rfl (by show c9 + 2 + 0 ≤ c9 + 2; omega) (by show d9 + 12 + 0 ≤ d9 + 12; omega) (fun H locs hw => ?_)
  refine W.eq (g2 := F0 m 2009 ls [.int z6.1]) rfl ?_
  have hw : w_W G z3.2 z6.2 s H locs := hw
  refine lv_istore (lv' := [(6, .int z6.1), (5, .int z3.1), (4, .int i9), (0, .ref b9), (1, .ref x9), (2, .ref (g_r G)), (3, .ref o9)]) hx hb dL_law__2009 hl (by decide) rfl (fun ls hl => ?_)
  refine lv_aload_n hx hb dL_law__2011 rfl (lv_at hl 5 rfl) ?_
  refine W_bind fun z7 hz => ?_
  refine w_after (cells1 := c9 + 2) (slots1 := d9 + 12) (w_runV E kV_L_136 kc_X12_thrown (t_R_thrown l hfl G on z3.2 z6.2 ((fun z => (.inl (some (.int z)), z3.2, z6.2)) z7) (by rw [hz]; rfl)) ⟨Nat.le_of_ble_eq_true rfl, Nat.le_of_ble_eq_true rfl⟩ hw (w_recvR E hw on) rfl hl.1 rfl (Nat.le_of_ble_eq_true rfl) dL_law__2012 ⟨by show c9 + 2 + 0 ≤ 601024; omega, by show d9 + 12 + 0 ≤ 7293034; omega⟩) hw rfl (by show c9 + 2 + 0 ≤ c9 + 2; omega) (by show d9 + 12 + 0 ≤ d9 + 12; omega) (fun H locs hw => ?_)
  refine W.eq (g2 := F0 m 2015 ls [.int z7]) rfl ?_
  have hw : w_W G z3.2 z6.2 s H locs := hw
  refine lv_iload hx hb dL_law__2015 (lv_at hl 1 rfl) ?_
  refine cx_icmp_eq (tgt := 2022) E dL_law__2017 (by decide) (fun _ => ?_) (fun _ => ?_)
  · refine lv_iload hx hb dL_law__2022 (lv_at hl 1 rfl) ?_
    refine cx_if_ne (tgt := 2039) E dL_law__2024 (by decide) (fun _ => ?_) (fun _ => ?_)
    · refine lv_goto (tgt := 2675) hx hb dL_law__2039 (by decide) ?_
      refine W.widen (k := c9 + 8) (n := d9 + 900) (by omega) (by omega) ?_
      exact hk z3.2 z6.2 _ _ _ hw (lv_sub hl [2, 3, 4, 5, 6] rfl)
    · refine lv_aload_n hx hb dL_law__2027 rfl (lv_at hl 6 rfl) ?_
      refine lv_iconst (v := 0) hx hb dL_law__2028 (by decide) ?_
      refine gx_lald E hw dL_law__2029 (fun v8 _ => ?_)
      refine lv_iload hx hb dL_law__2030 (lv_at hl 0 rfl) ?_
      refine lv_i2l (v := Int32.toInt64 z6.1) hx hb dL_law__2032 rfl ?_
      refine W.lcmp hx hb dL_law__2033 ?_
      refine cx_if_eq (tgt := 2039) E dL_law__2034 (by decide) (fun _ => ?_) (fun _ => ?_)
      · refine lv_goto (tgt := 2675) hx hb dL_law__2039 (by decide) ?_
        refine W.widen (k := c9 + 8) (n := d9 + 900) (by omega) (by omega) ?_
        exact hk z3.2 z6.2 _ _ _ hw (lv_sub hl [2, 3, 4, 5, 6] rfl)
      · refine lv_iconst (v := 0) hx hb dL_law__2037 (by decide) ?_
        exact W_none
  · refine lv_iconst (v := 0) hx hb dL_law__2020 (by decide) ?_
    exact W_none
