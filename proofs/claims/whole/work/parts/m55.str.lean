theorem dJ0_length_8abf5_0 : decode cJ0_length_8abf5 0 = .ok (.aload_n 0, 1) := by decide +kernel
theorem dJ0_length_8abf5_1 : decode cJ0_length_8abf5 1 = .ok (.getfield 9, 3) := by decide +kernel
theorem dJ0_length_8abf5_4 : decode cJ0_length_8abf5 4 = .ok (.arraylength, 1) := by decide +kernel
theorem dJ0_length_8abf5_5 : decode cJ0_length_8abf5 5 = .ok (.aload_n 0, 1) := by decide +kernel
theorem dJ0_length_8abf5_6 : decode cJ0_length_8abf5 6 = .ok (.invokevirtual 335, 3) := by decide +kernel
theorem dJ0_length_8abf5_9 : decode cJ0_length_8abf5 9 = .ok (.ishr, 1) := by decide +kernel
theorem dJ0_length_8abf5_10 : decode cJ0_length_8abf5 10 = .ok (.ireturn, 1) := by decide +kernel
theorem dJ0_charAt_5068e_0 : decode cJ0_charAt_5068e 0 = .ok (.aload_n 0, 1) := by decide +kernel
theorem dJ0_charAt_5068e_1 : decode cJ0_charAt_5068e 1 = .ok (.invokevirtual 492, 3) := by decide +kernel
theorem dJ0_charAt_5068e_4 : decode cJ0_charAt_5068e 4 = .ok (.ifCond .eq 12, 3) := by decide +kernel
theorem dJ0_charAt_5068e_7 : decode cJ0_charAt_5068e 7 = .ok (.aload_n 0, 1) := by decide +kernel
theorem dJ0_charAt_5068e_8 : decode cJ0_charAt_5068e 8 = .ok (.getfield 9, 3) := by decide +kernel
theorem dJ0_charAt_5068e_11 : decode cJ0_charAt_5068e 11 = .ok (.iload_n 1, 1) := by decide +kernel
theorem dJ0_charAt_5068e_12 : decode cJ0_charAt_5068e 12 = .ok (.invokestatic 495, 3) := by decide +kernel
theorem dJ0_charAt_5068e_15 : decode cJ0_charAt_5068e 15 = .ok (.ireturn, 1) := by decide +kernel
theorem dJ0_charAt_5068e_16 : decode cJ0_charAt_5068e 16 = .ok (.aload_n 0, 1) := by decide +kernel
theorem dJ0_charAt_5068e_17 : decode cJ0_charAt_5068e 17 = .ok (.getfield 9, 3) := by decide +kernel
theorem dJ0_charAt_5068e_20 : decode cJ0_charAt_5068e 20 = .ok (.iload_n 1, 1) := by decide +kernel
theorem dJ0_charAt_5068e_21 : decode cJ0_charAt_5068e 21 = .ok (.invokestatic 498, 3) := by decide +kernel
theorem dJ0_charAt_5068e_24 : decode cJ0_charAt_5068e 24 = .ok (.ireturn, 1) := by decide +kernel
theorem dJ0_coder_7d493_0 : decode cJ0_coder_7d493 0 = .ok (.getstatic 38, 3) := by decide +kernel
theorem dJ0_coder_7d493_3 : decode cJ0_coder_7d493 3 = .ok (.ifCond .eq 10, 3) := by decide +kernel
theorem dJ0_coder_7d493_6 : decode cJ0_coder_7d493 6 = .ok (.aload_n 0, 1) := by decide +kernel
theorem dJ0_coder_7d493_7 : decode cJ0_coder_7d493 7 = .ok (.getfield 15, 3) := by decide +kernel
theorem dJ0_coder_7d493_10 : decode cJ0_coder_7d493 10 = .ok (.goto 4, 3) := by decide +kernel
theorem dJ0_coder_7d493_13 : decode cJ0_coder_7d493 13 = .ok (.iconst 1, 1) := by decide +kernel
theorem dJ0_coder_7d493_14 : decode cJ0_coder_7d493 14 = .ok (.ireturn, 1) := by decide +kernel
theorem dJ0_isLatin1_aae02_0 : decode cJ0_isLatin1_aae02 0 = .ok (.getstatic 38, 3) := by decide +kernel
theorem dJ0_isLatin1_aae02_3 : decode cJ0_isLatin1_aae02 3 = .ok (.ifCond .eq 14, 3) := by decide +kernel
theorem dJ0_isLatin1_aae02_6 : decode cJ0_isLatin1_aae02 6 = .ok (.aload_n 0, 1) := by decide +kernel
theorem dJ0_isLatin1_aae02_7 : decode cJ0_isLatin1_aae02 7 = .ok (.getfield 15, 3) := by decide +kernel
theorem dJ0_isLatin1_aae02_10 : decode cJ0_isLatin1_aae02 10 = .ok (.ifCond .ne 7, 3) := by decide +kernel
theorem dJ0_isLatin1_aae02_13 : decode cJ0_isLatin1_aae02 13 = .ok (.iconst 1, 1) := by decide +kernel
theorem dJ0_isLatin1_aae02_14 : decode cJ0_isLatin1_aae02 14 = .ok (.goto 4, 3) := by decide +kernel
theorem dJ0_isLatin1_aae02_17 : decode cJ0_isLatin1_aae02 17 = .ok (.iconst 0, 1) := by decide +kernel
theorem dJ0_isLatin1_aae02_18 : decode cJ0_isLatin1_aae02 18 = .ok (.ireturn, 1) := by decide +kernel
theorem dJ0_checkIndex_df160_0 : decode cJ0_checkIndex_df160 0 = .ok (.iload_n 0, 1) := by decide +kernel
theorem dJ0_checkIndex_df160_1 : decode cJ0_checkIndex_df160 1 = .ok (.iload_n 1, 1) := by decide +kernel
theorem dJ0_checkIndex_df160_2 : decode cJ0_checkIndex_df160 2 = .ok (.getstatic 1053, 3) := by decide +kernel
theorem dJ0_checkIndex_df160_5 : decode cJ0_checkIndex_df160 5 = .ok (.invokestatic 1059, 3) := by decide +kernel
theorem dJ0_checkIndex_df160_8 : decode cJ0_checkIndex_df160 8 = .ok (.pop, 1) := by decide +kernel
theorem dJ0_checkIndex_df160_9 : decode cJ0_checkIndex_df160 9 = .ok (.return_, 1) := by decide +kernel
theorem dJ1_charAt_3b067_0 : decode cJ1_charAt_3b067 0 = .ok (.iload_n 1, 1) := by decide +kernel
theorem dJ1_charAt_3b067_1 : decode cJ1_charAt_3b067 1 = .ok (.aload_n 0, 1) := by decide +kernel
theorem dJ1_charAt_3b067_2 : decode cJ1_charAt_3b067 2 = .ok (.arraylength, 1) := by decide +kernel
theorem dJ1_charAt_3b067_3 : decode cJ1_charAt_3b067 3 = .ok (.invokestatic 9, 3) := by decide +kernel
theorem dJ1_charAt_3b067_6 : decode cJ1_charAt_3b067 6 = .ok (.aload_n 0, 1) := by decide +kernel
theorem dJ1_charAt_3b067_7 : decode cJ1_charAt_3b067 7 = .ok (.iload_n 1, 1) := by decide +kernel
theorem dJ1_charAt_3b067_8 : decode cJ1_charAt_3b067 8 = .ok (.baload, 1) := by decide +kernel
theorem dJ1_charAt_3b067_9 : decode cJ1_charAt_3b067 9 = .ok (.sipush 255, 3) := by decide +kernel
theorem dJ1_charAt_3b067_12 : decode cJ1_charAt_3b067 12 = .ok (.iand, 1) := by decide +kernel
theorem dJ1_charAt_3b067_13 : decode cJ1_charAt_3b067 13 = .ok (.i2c, 1) := by decide +kernel
theorem dJ1_charAt_3b067_14 : decode cJ1_charAt_3b067 14 = .ok (.ireturn, 1) := by decide +kernel
theorem dJ3_checkIndex_8e157_0 : decode cJ3_checkIndex_8e157 0 = .ok (.iload_n 0, 1) := by decide +kernel
theorem dJ3_checkIndex_8e157_1 : decode cJ3_checkIndex_8e157 1 = .ok (.ifCond .lt 8, 3) := by decide +kernel
theorem dJ3_checkIndex_8e157_4 : decode cJ3_checkIndex_8e157 4 = .ok (.iload_n 0, 1) := by decide +kernel
theorem dJ3_checkIndex_8e157_5 : decode cJ3_checkIndex_8e157 5 = .ok (.iload_n 1, 1) := by decide +kernel
theorem dJ3_checkIndex_8e157_6 : decode cJ3_checkIndex_8e157 6 = .ok (.if_icmp .lt 10, 3) := by decide +kernel
theorem dJ3_checkIndex_8e157_9 : decode cJ3_checkIndex_8e157 9 = .ok (.aload_n 2, 1) := by decide +kernel
theorem dJ3_checkIndex_8e157_10 : decode cJ3_checkIndex_8e157 10 = .ok (.iload_n 0, 1) := by decide +kernel
theorem dJ3_checkIndex_8e157_11 : decode cJ3_checkIndex_8e157 11 = .ok (.iload_n 1, 1) := by decide +kernel
theorem dJ3_checkIndex_8e157_12 : decode cJ3_checkIndex_8e157 12 = .ok (.invokestatic 95, 3) := by decide +kernel
theorem dJ3_checkIndex_8e157_15 : decode cJ3_checkIndex_8e157 15 = .ok (.athrow, 1) := by decide +kernel
theorem dJ3_checkIndex_8e157_16 : decode cJ3_checkIndex_8e157 16 = .ok (.iload_n 0, 1) := by decide +kernel
theorem dJ3_checkIndex_8e157_17 : decode cJ3_checkIndex_8e157 17 = .ok (.ireturn, 1) := by decide +kernel
theorem kc_J0_length_8abf5 : CodeOK yJ0_length_8abf5 cJ0_length_8abf5 1 (some .int) 0 := ⟨tb3 146 (by decide +kernel) (by decide +kernel), tb1 15 (by decide +kernel) (by decide +kernel), by decide +kernel⟩
theorem kc_J0_coder_7d493 : CodeOK yJ0_coder_7d493 cJ0_coder_7d493 1 (some .byte) 0 := ⟨tb3 150 (by decide +kernel) (by decide +kernel), tb1 15 (by decide +kernel) (by decide +kernel), by decide +kernel⟩
theorem kc_J0_charAt_5068e : CodeOK yJ0_charAt_5068e cJ0_charAt_5068e 2 (some .char) 1 := ⟨tb3 156 (by decide +kernel) (by decide +kernel), tb1 15 (by decide +kernel) (by decide +kernel), by decide +kernel⟩
theorem kc_J0_isLatin1_aae02 : CodeOK yJ0_isLatin1_aae02 cJ0_isLatin1_aae02 1 (some .boolean) 0 := ⟨tb3 160 (by decide +kernel) (by decide +kernel), tb1 15 (by decide +kernel) (by decide +kernel), by decide +kernel⟩
theorem kc_J1_charAt_3b067 : CodeOK yJ1_charAt_3b067 cJ1_charAt_3b067 2 (some .char) 2 := ⟨tb3 163 (by decide +kernel) (by decide +kernel), tb1 16 (by decide +kernel) (by decide +kernel), by decide +kernel⟩
theorem kc_J0_checkIndex_df160 : CodeOK yJ0_checkIndex_df160 cJ0_checkIndex_df160 2 none 2 := ⟨tb3 166 (by decide +kernel) (by decide +kernel), tb1 15 (by decide +kernel) (by decide +kernel), by decide +kernel⟩
theorem kc_J3_checkIndex_8e157 : CodeOK yJ3_checkIndex_8e157 cJ3_checkIndex_8e157 3 (some .int) 3 := ⟨tb3 171 (by decide +kernel) (by decide +kernel), tb1 17 (by decide +kernel) (by decide +kernel), by decide +kernel⟩
theorem kV_J0_335 : CallV "java/lang/String" "java/lang/String" 335 yJ0_coder_7d493 := ⟨rfl, tb3 147 (by decide +kernel) (by decide +kernel), tb3 148 (by decide +kernel) (by decide +kernel), tb3 149 (by decide +kernel) (by decide +kernel)⟩
theorem kV_J0_492 : CallV "java/lang/String" "java/lang/String" 492 yJ0_isLatin1_aae02 := ⟨rfl, tb3 157 (by decide +kernel) (by decide +kernel), tb3 158 (by decide +kernel) (by decide +kernel), tb3 159 (by decide +kernel) (by decide +kernel)⟩
theorem kS_J0_495 : CallS "java/lang/String" 495 yJ1_charAt_3b067 := ⟨tb3 161 (by decide +kernel) (by decide +kernel), tb3 162 (by decide +kernel) (by decide +kernel)⟩
theorem kS_J0_1059 : CallS "java/lang/String" 1059 yJ3_checkIndex_8e157 := ⟨tb3 169 (by decide +kernel) (by decide +kernel), tb3 170 (by decide +kernel) (by decide +kernel)⟩
theorem kS_J1_9 : CallS "java/lang/StringLatin1" 9 yJ0_checkIndex_df160 := ⟨tb3 164 (by decide +kernel) (by decide +kernel), tb3 165 (by decide +kernel) (by decide +kernel)⟩
theorem kw_J0_9 : Cond.fieldLink "java/lang/String" 9 "java/lang/String" "value" "[B" ∈ wTB := tb9 121 (by decide +kernel) (by decide +kernel)
theorem kw_J0_15 : Cond.fieldLink "java/lang/String" 15 "java/lang/String" "code\x72" "B" ∈ wTB := tb9 122 (by decide +kernel) (by decide +kernel)
theorem kw_J0_38 : Cond.fieldLink "java/lang/String" 38 "java/lang/String" "COMPACT_STRINGS" "Z" ∈ wTB := tb3 151 (by decide +kernel) (by decide +kernel)
theorem kw_J0_1053 : Cond.fieldLink "java/lang/String" 1053 "jdk/internal/util/Preconditions" "SIOOBE_FORMATTER" "Ljava/util/function/BiFunction;" ∈ wTB := tb3 167 (by decide +kernel) (by decide +kernel)
theorem kq_len {own : String} {index : Nat} (F : StrOK own index yJ0_length_8abf5) : CallV own "java/lang/String" index yJ0_length_8abf5 := ⟨rfl, F, tb3 144 (by decide +kernel) (by decide +kernel), tb3 145 (by decide +kernel) (by decide +kernel)⟩
theorem kq_chr {own : String} {index : Nat} (F : StrOK own index yJ0_charAt_5068e) : CallV own "java/lang/String" index yJ0_charAt_5068e := ⟨rfl, F, tb3 154 (by decide +kernel) (by decide +kernel), tb3 155 (by decide +kernel) (by decide +kernel)⟩
theorem s_ok : ∀ i, i < s_tab.length → (s_byt i).length < 2 ^ 31 ∧ ∀ b ∈ s_byt i, ((b &&& 255).toUInt32 % 65536).toInt32 = b ∧ b.toUInt32.toUInt16.toUInt32.toInt32 = b := by decide +kernel
def sI (i : Nat) : Option Unit := if i < s_tab.length then some () else none
section Rstr
variable {p : Program} {l : Launch} {e : Env} {R : Room} {s : State} {m : MethodId} {args : Array Value} {below : List Frame} {meth : Method} {c : Code} {H : Heap} {locs : List Loc} {cells slots : Nat} {Q : State → Prop}
variable {cc : ByteArray} {pc : Nat} {ls : Array Slot} {rest : List Value} {G : wG} {own : String} {nL mc ms : Nat} {M : Mem} {r : Rho} {β : Type} {cv : β → Out}
theorem p_nret {z : β} {v : Int32} {ty : FieldType} (E : wE G p l s m args meth c cc own nL) (hw : w_W G M r s H locs) (hr : meth.sig.returnType = some ty) (hn : narrow ty (.int v) = .int v) (hc : cells ≤ mc) (hs : slots ≤ ms) (hz : cv z = (.inl (some (.int v)), M, r)) (hdg : decode cc pc = .ok (.ireturn, 1)) : W p l e R s m args below meth c H locs cells slots (PQ G below args s mc ms cv (some z)) (F0 m pc ls [.int v]) :=
  W_some hc hs (vx_ret (W.zret (Qc := w_Q G (cv z)) (free := g_A G) E.1 E.2.1 hr hn (fun t ht _ => ⟨⟨_, by rw [hz], rfl⟩, by rw [hz, ht]; exact hw.1, hw.2.F ht⟩) hw.2.2.2 hdg E.2.2.2.2.2.2.2.2.1))
theorem str_recv {i : Nat} (E : wE G p l s m args meth c cc own nL) (hw : w_W G M r s H locs) (hi : i < s_tab.length) : ∃ cellB : Cell, H[g_sk G i]? = some cellB ∧ cellB.vm.isStatics = false ∧ s.vm.findClass "java/lang/String" = some cellB.cls := by
  obtain ⟨-, -, -, -, -, -, hC, -⟩ := E
  obtain ⟨cell, h1, h2, h3, -⟩ := (hC.1 i _ (List.getElem?_eq_getElem hi)).1.kept hw.2.2.1
  exact ⟨cell, h1, h2, h3⟩
set_option maxHeartbeats 4000000 in
set_option maxRecDepth 100000 in
theorem t_J_coder (l : Launch) (hfl : l.stackTraces = false) (G : wG) (i : Nat) (M : Mem) (r : Rho) : Ctr l yJ0_coder_7d493 (wWs yJ0_coder_7d493 cJ0_coder_7d493 1 (some .byte)) ({ frames := 0, cells := 0, slots := 0, locals := 0 } : Room) 0 0 G [.ref (g_sk G i)] M r ((sI i).map fun _ => (.inl (some (.int 0)), M, r)) := by
  refine Ctr.ofF (own := "java/lang/String") (by decide +kernel) hfl rfl (Nat.le_of_ble_eq_true rfl) (fun p e s m args below meth c E hno hr hnm hw ls hl => ?_)
  obtain ⟨hx, hb, hts, hown, hml, hTT, hC, -⟩ := id E
  have hl : lv_has ls 1 [(0, .ref (g_sk G i))] := hl
  unfold sI
  refine W_ite (fun hi => ?_) (fun _ => W_none)
  obtain ⟨hO, hc, hv, ht⟩ := hC.1 i _ (List.getElem?_eq_getElem hi)
  refine va_gets hx hb hC.2.2.2.1 hw.2 hown (hts _ kw_J0_38) (fun x h => h) dJ0_coder_7d493_0 ?_
  refine lv_if_eq hx hb dJ0_coder_7d493_3 rfl (fun h => absurd h (by decide)) (fun _ => ?_)
  refine lv_aload_n hx hb dJ0_coder_7d493_6 rfl (lv_at hl 0 rfl) ?_
  refine vk_getf hx hb hc hw.2 hown (hts _ kw_J0_15) (fun x h => h) dJ0_coder_7d493_7 ?_
  refine lv_goto hx hb dJ0_coder_7d493_10 rfl ?_
  exact p_nret E hw hr rfl (Nat.le_refl _) (Nat.le_refl _) rfl dJ0_coder_7d493_14
set_option maxHeartbeats 4000000 in
set_option maxRecDepth 100000 in
theorem t_J_isLatin1 (l : Launch) (hfl : l.stackTraces = false) (G : wG) (i : Nat) (M : Mem) (r : Rho) : Ctr l yJ0_isLatin1_aae02 (wWs yJ0_isLatin1_aae02 cJ0_isLatin1_aae02 1 (some .boolean)) ({ frames := 0, cells := 0, slots := 0, locals := 0 } : Room) 0 0 G [.ref (g_sk G i)] M r ((sI i).map fun _ => (.inl (some (.int 1)), M, r)) := by
  refine Ctr.ofF (own := "java/lang/String") (by decide +kernel) hfl rfl (Nat.le_of_ble_eq_true rfl) (fun p e s m args below meth c E hno hr hnm hw ls hl => ?_)
  obtain ⟨hx, hb, hts, hown, hml, hTT, hC, -⟩ := id E
  have hl : lv_has ls 1 [(0, .ref (g_sk G i))] := hl
  unfold sI
  refine W_ite (fun hi => ?_) (fun _ => W_none)
  obtain ⟨hO, hc, hv, ht⟩ := hC.1 i _ (List.getElem?_eq_getElem hi)
  refine va_gets hx hb hC.2.2.2.1 hw.2 hown (hts _ kw_J0_38) (fun x h => h) dJ0_isLatin1_aae02_0 ?_
  refine lv_if_eq hx hb dJ0_isLatin1_aae02_3 rfl (fun h => absurd h (by decide)) (fun _ => ?_)
  refine lv_aload_n hx hb dJ0_isLatin1_aae02_6 rfl (lv_at hl 0 rfl) ?_
  refine vk_getf hx hb hc hw.2 hown (hts _ kw_J0_15) (fun x h => h) dJ0_isLatin1_aae02_7 ?_
  refine lv_if_ne hx hb dJ0_isLatin1_aae02_10 rfl (fun h => absurd rfl h) (fun _ => ?_)
  refine lv_iconst (v := 1) hx hb dJ0_isLatin1_aae02_13 (by decide) ?_
  refine lv_goto hx hb dJ0_isLatin1_aae02_14 rfl ?_
  exact p_nret E hw hr rfl (Nat.le_refl _) (Nat.le_refl _) rfl dJ0_isLatin1_aae02_18
def jcx (j n : Int32) : Option Unit := if 0 ≤ j ∧ j < n then some () else none
set_option maxHeartbeats 4000000 in
set_option maxRecDepth 100000 in
theorem t_J_pciN (l : Launch) (hfl : l.stackTraces = false) (G : wG) (j n : Int32) (M : Mem) (r : Rho) : Ctr l yJ3_checkIndex_8e157 (wWs yJ3_checkIndex_8e157 cJ3_checkIndex_8e157 3 (some .int)) ({ frames := 0, cells := 0, slots := 0, locals := 0 } : Room) 0 0 G [.int j, .int n, .null] M r ((jcx j n).map fun _ => (.inl (some (.int j)), M, r)) := by
  refine Ctr.ofF (own := "jdk/internal/util/Preconditions") (by decide +kernel) hfl rfl (Nat.le_of_ble_eq_true rfl) (fun p e s m args below meth c E hno hr hnm hw ls hl => ?_)
  obtain ⟨hx, hb, hts, hown, hml, hTT, hC, -⟩ := id E
  have hl : lv_has ls 3 [(0, .int j), (1, .int n), (2, .null)] := hl
  unfold jcx
  refine lv_iload_n hx hb dJ3_checkIndex_8e157_0 rfl (lv_at hl 0 rfl) ?_
  refine lv_if_lt hx hb dJ3_checkIndex_8e157_1 rfl (fun h => ?_) (fun h => ?_)
  · rw [if_neg (fun q => absurd h (Int32.not_lt.mpr q.1))]; exact W_none
  refine lv_iload_n hx hb dJ3_checkIndex_8e157_4 rfl (lv_at hl 0 rfl) ?_
  refine lv_iload_n hx hb dJ3_checkIndex_8e157_5 rfl (lv_at hl 1 rfl) ?_
  refine lv_icmp_lt hx hb dJ3_checkIndex_8e157_6 rfl (fun h2 => ?_) (fun h2 => ?_)
  · rw [if_pos ⟨Int32.not_lt.mp h, h2⟩]
    refine lv_iload_n hx hb dJ3_checkIndex_8e157_16 rfl (lv_at hl 0 rfl) ?_
    exact p_iret E hw hr (Nat.le_refl _) (Nat.le_refl _) rfl dJ3_checkIndex_8e157_17
  · rw [if_neg (fun q => h2 q.2)]; exact W_none
set_option maxHeartbeats 4000000 in
set_option maxRecDepth 100000 in
theorem t_J_pciR (l : Launch) (hfl : l.stackTraces = false) (G : wG) (j n : Int32) (t9 : Nat) (M : Mem) (r : Rho) : Ctr l yJ3_checkIndex_8e157 (wWs yJ3_checkIndex_8e157 cJ3_checkIndex_8e157 3 (some .int)) ({ frames := 0, cells := 0, slots := 0, locals := 0 } : Room) 0 0 G [.int j, .int n, .ref t9] M r ((jcx j n).map fun _ => (.inl (some (.int j)), M, r)) := by
  refine Ctr.ofF (own := "jdk/internal/util/Preconditions") (by decide +kernel) hfl rfl (Nat.le_of_ble_eq_true rfl) (fun p e s m args below meth c E hno hr hnm hw ls hl => ?_)
  obtain ⟨hx, hb, hts, hown, hml, hTT, hC, -⟩ := id E
  have hl : lv_has ls 3 [(0, .int j), (1, .int n), (2, .ref t9)] := hl
  unfold jcx
  refine lv_iload_n hx hb dJ3_checkIndex_8e157_0 rfl (lv_at hl 0 rfl) ?_
  refine lv_if_lt hx hb dJ3_checkIndex_8e157_1 rfl (fun h => ?_) (fun h => ?_)
  · rw [if_neg (fun q => absurd h (Int32.not_lt.mpr q.1))]; exact W_none
  refine lv_iload_n hx hb dJ3_checkIndex_8e157_4 rfl (lv_at hl 0 rfl) ?_
  refine lv_iload_n hx hb dJ3_checkIndex_8e157_5 rfl (lv_at hl 1 rfl) ?_
  refine lv_icmp_lt hx hb dJ3_checkIndex_8e157_6 rfl (fun h2 => ?_) (fun h2 => ?_)
  · rw [if_pos ⟨Int32.not_lt.mp h, h2⟩]
    refine lv_iload_n hx hb dJ3_checkIndex_8e157_16 rfl (lv_at hl 0 rfl) ?_
    exact p_iret E hw hr (Nat.le_refl _) (Nat.le_refl _) rfl dJ3_checkIndex_8e157_17
  · rw [if_neg (fun q => h2 q.2)]; exact W_none
set_option maxHeartbeats 4000000 in
set_option maxRecDepth 100000 in
theorem t_J_ci (l : Launch) (hfl : l.stackTraces = false) (G : wG) (j n : Int32) (M : Mem) (r : Rho) : Ctr l yJ0_checkIndex_df160 (wWs yJ0_checkIndex_df160 cJ0_checkIndex_df160 2 none) ({ frames := 1, cells := 0, slots := 0, locals := 22 } : Room) 0 0 G [.int j, .int n] M r ((jcx j n).map fun _ => (.inl none, M, r)) := by
  refine Ctr.ofF (own := "java/lang/String") (by decide +kernel) hfl rfl (Nat.le_of_ble_eq_true rfl) (fun p e s m args below meth c E hno hr hnm hw ls hl => ?_)
  obtain ⟨hx, hb, hts, hown, hml, hTT, hC, -⟩ := id E
  have hl : lv_has ls 2 [(0, .int j), (1, .int n)] := hl
  rcases h9 : jcx j n with _ | u
  · exact W_none
  refine lv_iload_n hx hb dJ0_checkIndex_df160_0 rfl (lv_at hl 0 rfl) ?_
  refine lv_iload_n hx hb dJ0_checkIndex_df160_1 rfl (lv_at hl 1 rfl) ?_
  rcases hC.2.2.2.2 with hZ | ⟨t9, hZ⟩
  · refine va_gets hx hb hZ hw.2 hown (hts _ kw_J0_1053) (fun x h => h) dJ0_checkIndex_df160_2 ?_
    refine w_after (cells1 := 0) (slots1 := 0) (w_runS E kS_J0_1059 kc_J3_checkIndex_8e157 (t_J_pciN l hfl G j n M r (.inl (some (.int j)), M, r) (by rw [h9]; rfl)) ⟨(Nat.le_of_ble_eq_true rfl), (Nat.le_of_ble_eq_true rfl)⟩ hw rfl hl.1 rfl (Nat.le_of_ble_eq_true rfl) dJ0_checkIndex_df160_5 ⟨(Nat.le_of_ble_eq_true rfl), (Nat.le_of_ble_eq_true rfl)⟩) hw rfl (Nat.le_of_ble_eq_true rfl) (Nat.le_of_ble_eq_true rfl) (fun H locs hw => ?_)
    refine lv_pop hx hb dJ0_checkIndex_df160_8 rfl ?_
    exact p_vret E hw hr (Nat.le_refl _) (Nat.le_refl _) rfl dJ0_checkIndex_df160_9
  · refine va_gets hx hb hZ hw.2 hown (hts _ kw_J0_1053) (fun x h => h) dJ0_checkIndex_df160_2 ?_
    refine w_after (cells1 := 0) (slots1 := 0) (w_runS E kS_J0_1059 kc_J3_checkIndex_8e157 (t_J_pciR l hfl G j n t9 M r (.inl (some (.int j)), M, r) (by rw [h9]; rfl)) ⟨(Nat.le_of_ble_eq_true rfl), (Nat.le_of_ble_eq_true rfl)⟩ hw rfl hl.1 rfl (Nat.le_of_ble_eq_true rfl) dJ0_checkIndex_df160_5 ⟨(Nat.le_of_ble_eq_true rfl), (Nat.le_of_ble_eq_true rfl)⟩) hw rfl (Nat.le_of_ble_eq_true rfl) (Nat.le_of_ble_eq_true rfl) (fun H locs hw => ?_)
    refine lv_pop hx hb dJ0_checkIndex_df160_8 rfl ?_
    exact p_vret E hw hr (Nat.le_refl _) (Nat.le_refl _) rfl dJ0_checkIndex_df160_9
theorem sAt_jcx {i : Nat} {k v : Int32} (h : sAt i k = some v) : i < s_tab.length ∧ jcx k (Int32.ofNat (s_byt i).length) = some () ∧ vp_in k (s_byt i).length ∧ (s_byt i).getD k.toNatClampNeg 0 = v ∧ v ∈ s_byt i := by
  unfold sAt at h
  split at h
  · next h9 =>
    obtain ⟨hi, hk⟩ := h9
    cases h
    have hl := (s_ok i hi).1
    have h3 : ¬ (k < 0 ∨ (s_byt i).length ≤ k.toNatClampNeg) := of_decide_eq_true hk
    have h4 : ¬ k < 0 := fun q => h3 (Or.inl q)
    have h5 : k.toNatClampNeg < (s_byt i).length := Nat.not_le.mp fun q => h3 (Or.inr q)
    refine ⟨hi, ?_, h3, rfl, ?_⟩
    · unfold jcx
      refine if_pos ⟨Int32.not_lt.mp h4, ?_⟩
      rw [Int32.lt_iff_toInt_lt, Int32.toInt_ofNat_of_lt hl]
      have h6 : 0 ≤ k.toInt := by
        have := Int32.not_lt.mp h4
        rw [Int32.le_iff_toInt_le] at this
        exact this
      unfold Int32.toNatClampNeg at h5
      omega
    · rw [List.getD_eq_getElem?_getD, List.getElem?_eq_getElem h5]
      exact List.getElem_mem _
  · cases h
theorem s_nch {b : Int32} (h : b.toUInt32.toUInt16.toUInt32.toInt32 = b) : narrow .char (.int b) = .int b := by
  show Value.int _ = Value.int b
  rw [h]
set_option maxHeartbeats 4000000 in
set_option maxRecDepth 100000 in
theorem t_J_l1 (l : Launch) (hfl : l.stackTraces = false) (G : wG) (i : Nat) (k : Int32) (M : Mem) (r : Rho) : Ctr l yJ1_charAt_3b067 (wWs yJ1_charAt_3b067 cJ1_charAt_3b067 2 (some .char)) ({ frames := 2, cells := 0, slots := 0, locals := 43 } : Room) 0 0 G [.ref (g_sv G i), .int k] M r ((sAt i k).map fun v => (.inl (some (.int v)), M, r)) := by
  refine Ctr.ofF (own := "java/lang/StringLatin1") (by decide +kernel) hfl rfl (Nat.le_of_ble_eq_true rfl) (fun p e s m args below meth c E hno hr hnm hw ls hl => ?_)
  obtain ⟨hx, hb, hts, hown, hml, hTT, hC, -⟩ := id E
  have hl : lv_has ls 2 [(0, .ref (g_sv G i)), (1, .int k)] := hl
  rcases h9 : sAt i k with _ | v
  · exact W_none
  obtain ⟨hi, hj, hin, hv9, hm⟩ := sAt_jcx h9
  obtain ⟨hO, hc, hv, ht⟩ := hC.1 i _ (List.getElem?_eq_getElem hi)
  have hb9 := (s_ok i hi).2 v hm
  refine lv_iload_n hx hb dJ1_charAt_3b067_0 rfl (lv_at hl 1 rfl) ?_
  refine lv_aload_n hx hb dJ1_charAt_3b067_1 rfl (lv_at hl 0 rfl) ?_
  refine va_tlen hx hb ht hw.2 rfl dJ1_charAt_3b067_2 ?_
  refine w_after (cells1 := 0) (slots1 := 0) (w_runS E kS_J1_9 kc_J0_checkIndex_df160 (t_J_ci l hfl G k (Int32.ofNat (s_byt i).length) M r (.inl none, M, r) (by rw [hj]; rfl)) ⟨(Nat.le_of_ble_eq_true rfl), (Nat.le_of_ble_eq_true rfl)⟩ hw rfl hl.1 rfl (Nat.le_of_ble_eq_true rfl) dJ1_charAt_3b067_3 ⟨(Nat.le_of_ble_eq_true rfl), (Nat.le_of_ble_eq_true rfl)⟩) hw rfl (Nat.le_of_ble_eq_true rfl) (Nat.le_of_ble_eq_true rfl) (fun H locs hw => ?_)
  refine lv_aload_n hx hb dJ1_charAt_3b067_6 rfl (lv_at hl 0 rfl) ?_
  refine lv_iload_n hx hb dJ1_charAt_3b067_7 rfl (lv_at hl 1 rfl) ?_
  refine va_tb hx hb ht hw.2 hin (v := .int v) (by rw [← hv9]) dJ1_charAt_3b067_8 ?_
  refine lv_sipush (v := 255) hx hb dJ1_charAt_3b067_9 (by decide) ?_
  refine lv_iand hx hb dJ1_charAt_3b067_12 ?_
  refine lv_i2c (v := v) hx hb dJ1_charAt_3b067_13 hb9.1 ?_
  exact p_nret E hw hr (s_nch hb9.2) (Nat.le_refl _) (Nat.le_refl _) rfl dJ1_charAt_3b067_14
theorem s_sh0 (x : Int32) : x >>> ((0 : Int32) &&& 31) = x := by
  rw [show ((0 : Int32) &&& 31) = 0 by decide]
  exact Int32.shiftRight_zero
set_option maxHeartbeats 4000000 in
set_option maxRecDepth 100000 in
theorem t_J_length (l : Launch) (hfl : l.stackTraces = false) (G : wG) (i : Nat) (M : Mem) (r : Rho) : Ctr l yJ0_length_8abf5 (wWs yJ0_length_8abf5 cJ0_length_8abf5 1 (some .int)) ({ frames := 1, cells := 0, slots := 0, locals := 20 } : Room) 0 0 G [.ref (g_sk G i)] M r ((sLen i).map fun v => (.inl (some (.int v)), M, r)) := by
  refine Ctr.ofF (own := "java/lang/String") (by decide +kernel) hfl rfl (Nat.le_of_ble_eq_true rfl) (fun p e s m args below meth c E hno hr hnm hw ls hl => ?_)
  obtain ⟨hx, hb, hts, hown, hml, hTT, hC, -⟩ := id E
  have hl : lv_has ls 1 [(0, .ref (g_sk G i))] := hl
  unfold sLen
  refine W_ite (fun hi => ?_) (fun _ => W_none)
  obtain ⟨hO, hc, hv, ht⟩ := hC.1 i _ (List.getElem?_eq_getElem hi)
  have h9 : sI i = some () := if_pos hi
  refine lv_aload_n hx hb dJ0_length_8abf5_0 rfl (lv_at hl 0 rfl) ?_
  refine vk_getf hx hb hv hw.2 hown (hts _ kw_J0_9) (fun x h => h) dJ0_length_8abf5_1 ?_
  refine va_tlen hx hb ht hw.2 rfl dJ0_length_8abf5_4 ?_
  refine lv_aload_n hx hb dJ0_length_8abf5_5 rfl (lv_at hl 0 rfl) ?_
  refine w_after (cells1 := 0) (slots1 := 0) (w_runV E kV_J0_335 kc_J0_coder_7d493 (t_J_coder l hfl G i M r (.inl (some (.int 0)), M, r) (by rw [h9]; rfl)) ⟨(Nat.le_of_ble_eq_true rfl), (Nat.le_of_ble_eq_true rfl)⟩ hw (str_recv E hw hi) rfl hl.1 rfl (Nat.le_of_ble_eq_true rfl) dJ0_length_8abf5_6 ⟨(Nat.le_of_ble_eq_true rfl), (Nat.le_of_ble_eq_true rfl)⟩) hw rfl (Nat.le_of_ble_eq_true rfl) (Nat.le_of_ble_eq_true rfl) (fun H locs hw => ?_)
  refine lv_ishr hx hb dJ0_length_8abf5_9 ?_
  rw [show (Int32.ofNat (s_byt i).length >>> ((0 : Int32) &&& 31)) = Int32.ofNat (s_byt i).length from s_sh0 _]
  exact p_iret E hw hr (Nat.le_refl _) (Nat.le_refl _) rfl dJ0_length_8abf5_10
set_option maxHeartbeats 4000000 in
set_option maxRecDepth 100000 in
theorem t_J_charAt (l : Launch) (hfl : l.stackTraces = false) (G : wG) (i : Nat) (k : Int32) (M : Mem) (r : Rho) : Ctr l yJ0_charAt_5068e (wWs yJ0_charAt_5068e cJ0_charAt_5068e 2 (some .char)) ({ frames := 3, cells := 0, slots := 0, locals := 64 } : Room) 0 0 G [.ref (g_sk G i), .int k] M r ((sAt i k).map fun v => (.inl (some (.int v)), M, r)) := by
  refine Ctr.ofF (own := "java/lang/String") (by decide +kernel) hfl rfl (Nat.le_of_ble_eq_true rfl) (fun p e s m args below meth c E hno hr hnm hw ls hl => ?_)
  obtain ⟨hx, hb, hts, hown, hml, hTT, hC, -⟩ := id E
  have hl : lv_has ls 2 [(0, .ref (g_sk G i)), (1, .int k)] := hl
  rcases h9 : sAt i k with _ | v
  · exact W_none
  obtain ⟨hi, hj, hin, hv9, hm⟩ := sAt_jcx h9
  obtain ⟨hO, hc, hv, ht⟩ := hC.1 i _ (List.getElem?_eq_getElem hi)
  have hb9 := (s_ok i hi).2 v hm
  have h8 : sI i = some () := if_pos hi
  refine lv_aload_n hx hb dJ0_charAt_5068e_0 rfl (lv_at hl 0 rfl) ?_
  refine w_after (cells1 := 0) (slots1 := 0) (w_runV E kV_J0_492 kc_J0_isLatin1_aae02 (t_J_isLatin1 l hfl G i M r (.inl (some (.int 1)), M, r) (by rw [h8]; rfl)) ⟨(Nat.le_of_ble_eq_true rfl), (Nat.le_of_ble_eq_true rfl)⟩ hw (str_recv E hw hi) rfl hl.1 rfl (Nat.le_of_ble_eq_true rfl) dJ0_charAt_5068e_1 ⟨(Nat.le_of_ble_eq_true rfl), (Nat.le_of_ble_eq_true rfl)⟩) hw rfl (Nat.le_of_ble_eq_true rfl) (Nat.le_of_ble_eq_true rfl) (fun H locs hw => ?_)
  refine lv_if_eq hx hb dJ0_charAt_5068e_4 rfl (fun h => absurd h (by decide)) (fun _ => ?_)
  refine lv_aload_n hx hb dJ0_charAt_5068e_7 rfl (lv_at hl 0 rfl) ?_
  refine vk_getf hx hb hv hw.2 hown (hts _ kw_J0_9) (fun x h => h) dJ0_charAt_5068e_8 ?_
  refine lv_iload_n hx hb dJ0_charAt_5068e_11 rfl (lv_at hl 1 rfl) ?_
  refine w_after (cells1 := 0) (slots1 := 0) (w_runS E kS_J0_495 kc_J1_charAt_3b067 (t_J_l1 l hfl G i k M r (.inl (some (.int v)), M, r) (by rw [h9]; rfl)) ⟨(Nat.le_of_ble_eq_true rfl), (Nat.le_of_ble_eq_true rfl)⟩ hw rfl hl.1 rfl (Nat.le_of_ble_eq_true rfl) dJ0_charAt_5068e_12 ⟨(Nat.le_of_ble_eq_true rfl), (Nat.le_of_ble_eq_true rfl)⟩) hw rfl (Nat.le_of_ble_eq_true rfl) (Nat.le_of_ble_eq_true rfl) (fun H locs hw => ?_)
  exact p_nret E hw hr (s_nch hb9.2) (Nat.le_refl _) (Nat.le_refl _) rfl dJ0_charAt_5068e_15
set_option maxHeartbeats 4000000 in
theorem gx_slen {i index : Nat} {k : Int32 → Option β} (E : wE G p l s m args meth c cc own nL) (hw : w_W G M r s H locs) (F : StrOK own index yJ0_length_8abf5) (hsize : ls.size = nL) (hrest : (rest.map fun v => v.category).sum ≤ 8) (hdg : decode cc pc = .ok (.invokevirtual index, 3)) (hRf : 8 ≤ R.frames) (hRl : 400 ≤ R.locals) (hRc : cells ≤ R.cells) (hRs : slots ≤ R.slots)
    (kk : ∀ v H1 locs1, w_W G M r s H1 locs1 → W p l e R s m args below meth c H1 locs1 cells slots (PQ G below args s mc ms cv (k v)) (F0 m (pc + 3) ls (.int v :: rest))) : W p l e R s m args below meth c H locs cells slots (PQ G below args s mc ms cv ((sLen i).bind k)) (F0 m pc ls (.ref (g_sk G i) :: rest)) := by
  refine W_bind (fun v h9 => ?_)
  have hi : i < s_tab.length := by unfold sLen at h9; split at h9 <;> first | assumption | cases h9
  have hfl : l.stackTraces = false := E.2.2.2.2.2.2.2.2.2
  have hf : 1 + 1 ≤ R.frames := Nat.le_trans (by decide) hRf
  have hlo : 8 + (1 + 11) + 20 ≤ R.locals := Nat.le_trans (by decide) hRl
  refine w_after (w_runV E (kq_len F) kc_J0_length_8abf5 (t_J_length l hfl G i M r (.inl (some (.int v)), M, r) (by rw [h9]; rfl)) ⟨hf, hlo⟩ hw (str_recv E hw hi) rfl hsize rfl hrest hdg ⟨hRc, hRs⟩) hw rfl (Nat.le_refl _) (Nat.le_refl _) (fun H locs hw => kk v H locs hw)
set_option maxHeartbeats 4000000 in
theorem gx_schar {i index : Nat} {j : Int32} {k : Int32 → Option β} (E : wE G p l s m args meth c cc own nL) (hw : w_W G M r s H locs) (F : StrOK own index yJ0_charAt_5068e) (hsize : ls.size = nL) (hrest : (rest.map fun v => v.category).sum ≤ 8) (hdg : decode cc pc = .ok (.invokevirtual index, 3)) (hRf : 8 ≤ R.frames) (hRl : 400 ≤ R.locals) (hRc : cells ≤ R.cells) (hRs : slots ≤ R.slots)
    (kk : ∀ v H1 locs1, w_W G M r s H1 locs1 → W p l e R s m args below meth c H1 locs1 cells slots (PQ G below args s mc ms cv (k v)) (F0 m (pc + 3) ls (.int v :: rest))) : W p l e R s m args below meth c H locs cells slots (PQ G below args s mc ms cv ((sAt i j).bind k)) (F0 m pc ls (.int j :: .ref (g_sk G i) :: rest)) := by
  refine W_bind (fun v h9 => ?_)
  have hi : i < s_tab.length := (sAt_jcx h9).1
  have hfl : l.stackTraces = false := E.2.2.2.2.2.2.2.2.2
  have hf : 3 + 1 ≤ R.frames := Nat.le_trans (by decide) hRf
  have hlo : 8 + (2 + 11) + 64 ≤ R.locals := Nat.le_trans (by decide) hRl
  refine w_after (w_runV E (kq_chr F) kc_J0_charAt_5068e (t_J_charAt l hfl G i j M r (.inl (some (.int v)), M, r) (by rw [h9]; rfl)) ⟨hf, hlo⟩ hw (str_recv E hw hi) rfl hsize rfl hrest hdg ⟨hRc, hRs⟩) hw rfl (Nat.le_refl _) (Nat.le_refl _) (fun H locs hw => kk v H locs hw)
end Rstr
