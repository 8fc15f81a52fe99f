section Rc
variable {p : Program} {l : Launch} {e : Env} {R : Room} {s : State} {m : MethodId} {args : Array Value} {below : List Frame} {meth : Method} {c : Code} {H : Heap} {locs : List Loc} {cells slots : Nat} {Q : State → Prop}
variable {cc : ByteArray} {pc : Nat} {ls : Array Slot} {rest st0 : List Value} {G : wG} {own : String} {nL mc ms : Nat} {M : Mem} {r : Rho} {β : Type} {cv : β → Out}
variable {y x : MethodName} {cc' : ByteArray} {maxL' n index b : Nat} {ret' : Option FieldType} {C owner host : String} {rm : Room} {As : List Value} {X : Out}
theorem w_U_blind {av : List Value} : FrameBlind (va_Pc av (w_U G M r)) := by
  intro a U g mk q
  obtain ⟨q1, q2, q3, q4, q5⟩ := q
  exact ⟨q1, q2, w_T.warm (s := U) (U := U.calling g mk a) (State.WarmedH.refl U) q3, w_C.moved (s := U) (U := U.calling g mk a) (Vm.Alike.refl U.vm) q4, q5⟩
theorem w_U_at (E : wE G p l s m args meth c cc own nL) (hw : w_W G M r s H locs) {U : State} (hU : U.heap = H) (hW : s.WarmedH U.vm) : w_U G M r U := by
  obtain ⟨-, -, -, -, -, hT, hC, hlo, -⟩ := E
  refine ⟨by rw [hU]; exact hw.1, hT.warm hW, ?_, by rw [hU]; exact Nat.le_trans hlo hw.2.1⟩
  rw [hU]
  exact w_C.moved hW.alike (hC.kept hw.2.2.1)
def CodeOK (y : MethodName) (cc' : ByteArray) (maxL' : Nat) (ret' : Option FieldType) (n : Nat) : Prop := Cond.code y cc' maxL' ret' ∈ wTB ∧ Cond.initialized y.cls ∈ wTB ∧ (y.cls ≠ "java/lang/invoke/MethodHandle" ∧ y.cls ≠ "java/lang/invoke/VarHandle" ∧ (parseMethodDescriptor y.desc).map (fun d => d.parameters.length) = some n)
def CallV (own C : String) (index : Nat) (y : MethodName) : Prop := y.cls = C ∧ Cond.methodLink own index y ∈ wTB ∧ Cond.instanceMethod y ∈ wTB ∧ Cond.selects C y y ∈ wTB
def CallS (own : String) (index : Nat) (y : MethodName) : Prop := Cond.methodLink own index y ∈ wTB ∧ Cond.static y ∈ wTB
def CallI (own : String) (index : Nat) (y : MethodName) : Prop := y.name = "<init>" ∧ Cond.methodLink own index y ∈ wTB ∧ Cond.instanceMethod y ∈ wTB
def CallSN (own host : String) (index : Nat) (y : MethodName) : Prop := Cond.methodLinkNest own index y host ∈ wXW ∧ Cond.static y ∈ wTB
def CallIN (own host : String) (index : Nat) (y : MethodName) : Prop := y.name = "<init>" ∧ Cond.methodLinkNest own index y host ∈ wXW ∧ Cond.instanceMethod y ∈ wTB
/-- by the receiver's class C: named x, found y -/
def CallU (own C owner : String) (index : Nat) (x y : MethodName) : Prop := Cond.methodLink own index x ∈ wTB ∧ Cond.sameMethod x.cls owner x.name x.desc ∈ wTB ∧ Cond.selects C x y ∈ wTB ∧ Cond.instanceMethod y ∈ wTB ∧ (owner ≠ "java/lang/invoke/MethodHandle" ∧ owner ≠ "java/lang/invoke/VarHandle") ∧ x.desc = y.desc ∧ ((y = ⟨owner, x.name, x.desc⟩) ∨ Cond.declares ⟨owner, x.name, x.desc⟩ ∈ wXW)
theorem w_back (E : wE G p l s m args meth c cc own nL) (k : CodeOK y cc' maxL' ret' n) : (∀ w ∈ wWs y cc' maxL' ret', ∀ (a' : Array Value) (U : State), s.WarmedH U.vm → w.before a' U = true) := by
  intro w hw a' U hW
  rcases List.mem_cons.mp hw with rfl | hw
  · exact word_at hW (tb_good _ k.1) (E.2.2.1 _ k.1)
  · exact word_at hW (tb_good _ hw) (E.2.2.1 _ hw)
theorem w_callB (E : wE G p l s m args meth c cc own nL) (k : CodeOK y cc' maxL' ret' n) (hl : Cond.methodLink own index y ∈ wTB) (hR : rm.frames + 1 ≤ R.frames ∧ 8 + (maxL' + 11) + rm.locals ≤ R.locals) : CallB R s args own index y cc' maxL' ret' (wWs y cc' maxL' ret') rm rm.cells rm.slots n := by
  refine ⟨rfl, rfl, hR.1, hR.2, w_back E k, List.mem_cons_self, E.2.2.1 _ k.1, E.2.2.1 _ k.2.1, ⟨k.2.2.1, k.2.2.2.1⟩, fun sig h => ?_, E.2.2.1 _ hl⟩
  have h2 := k.2.2.2.2
  rw [h] at h2
  exact (Option.some.inj h2).symm
theorem w_runV (E : wE G p l s m args meth c cc own nL) (k : CallV own C index y) (k2 : CodeOK y cc' maxL' ret' n)
    (hM : vx_Met l y (wWs y cc' maxL' ret') rm (va_Pc (.ref b :: As) (w_U G M r)) (w_Q G X) (w_X G X) rm.cells rm.slots (g_A G)) (hR : rm.frames + 1 ≤ R.frames ∧ 8 + (maxL' + 11) + rm.locals ≤ R.locals) (hw : w_W G M r s H locs)
    (hcell : ∃ cellB : Cell, H[b]? = some cellB ∧ cellB.vm.isStatics = false ∧ s.vm.findClass C = some cellB.cls) (hn : As.length = n) (hsize : ls.size = nL) (hst : st0 = As.reverse ++ .ref b :: rest) (hrest : (rest.map fun v => v.category).sum ≤ 8) (hdg : decode cc pc = .ok (.invokevirtual index, 3)) (hf : cells + rm.cells ≤ R.cells ∧ slots + rm.slots ≤ R.slots) :
    vx_Run p l e R s m args below meth c H locs cells slots rm.cells rm.slots (F0 m pc ls st0) rest (w_Q G X (Value.ref b :: As).toArray) (w_X G X) (g_A G) :=
  vx_runV ⟨E.1, E.2.1, E.2.2.2.2.1, E.2.2.2.1, E.2.2.1⟩ hM ⟨w_callB E k2 k.2.1 hR, E.2.2.1 _ k.2.2.1, E.2.2.1 _ k.2.2.2⟩ ⟨w_U_blind, hcell, fun U hU hW => ⟨rfl, w_U_at E hw hU hW⟩⟩ rfl hn hsize hst (lv_room hrest) hdg hf
theorem w_runS (E : wE G p l s m args meth c cc own nL) (k : CallS own index y) (k2 : CodeOK y cc' maxL' ret' n)
    (hM : vx_Met l y (wWs y cc' maxL' ret') rm (va_Pc As (w_U G M r)) (w_Q G X) (w_X G X) rm.cells rm.slots (g_A G)) (hR : rm.frames + 1 ≤ R.frames ∧ 8 + (maxL' + 11) + rm.locals ≤ R.locals) (hw : w_W G M r s H locs)
    (hn : As.length = n) (hsize : ls.size = nL) (hst : st0 = As.reverse ++ rest) (hrest : (rest.map fun v => v.category).sum ≤ 8) (hdg : decode cc pc = .ok (.invokestatic index, 3)) (hf : cells + rm.cells ≤ R.cells ∧ slots + rm.slots ≤ R.slots) :
    vx_Run p l e R s m args below meth c H locs cells slots rm.cells rm.slots (F0 m pc ls st0) rest (w_Q G X As.toArray) (w_X G X) (g_A G) :=
  vx_runS ⟨E.1, E.2.1, E.2.2.2.2.1, E.2.2.2.1, E.2.2.1⟩ hM ⟨w_callB E k2 k.1 hR, E.2.2.1 _ k.2⟩ ⟨w_U_blind, fun U hU hW => ⟨rfl, w_U_at E hw hU hW⟩⟩ rfl hn hsize hst (lv_room hrest) hdg hf
theorem w_runI (E : wE G p l s m args meth c cc own nL) (k : CallI own index y) (k2 : CodeOK y cc' maxL' none n)
    (hM : vx_Met l y (wWs y cc' maxL' none) rm (va_Pc (.ref b :: As) (w_U G M r)) (w_Q G X) (w_X G X) rm.cells rm.slots (g_A G)) (hR : rm.frames + 1 ≤ R.frames ∧ 8 + (maxL' + 11) + rm.locals ≤ R.locals) (hw : w_W G M r s H locs)
    (hn : As.length = n) (hsize : ls.size = nL) (hst : st0 = As.reverse ++ .ref b :: rest) (hrest : (rest.map fun v => v.category).sum ≤ 8) (hdg : decode cc pc = .ok (.invokespecial index, 3)) (hf : cells + rm.cells ≤ R.cells ∧ slots + rm.slots ≤ R.slots) :
    vx_Run p l e R s m args below meth c H locs cells slots rm.cells rm.slots (F0 m pc ls st0) rest (w_Q G X (Value.ref b :: As).toArray) (w_X G X) (g_A G) :=
  vx_runI ⟨E.1, E.2.1, E.2.2.2.2.1, E.2.2.2.1, E.2.2.1⟩ hM ⟨w_callB E k2 k.2.1 hR, k.1, E.2.2.1 _ k.2.2⟩ ⟨w_U_blind, fun U hU hW => ⟨rfl, w_U_at E hw hU hW⟩⟩ rfl hn hsize hst (lv_room hrest) hdg hf
theorem w_callN (E : wE G p l s m args meth c cc own nL) (k : CodeOK y cc' maxL' ret' n) (hl : Cond.methodLinkNest own index y host ∈ wXW) (hR : rm.frames + 1 ≤ R.frames ∧ 8 + (maxL' + 11) + rm.locals ≤ R.locals) : va_CN R s args own index y host cc' maxL' ret' (wWs y cc' maxL' ret') rm rm.cells rm.slots n := by
  refine ⟨⟨rfl, rfl, hR.1, hR.2, w_back E k, List.mem_cons_self⟩, E.2.2.1 _ k.1, E.2.2.1 _ k.2.1, ⟨k.2.2.1, k.2.2.2.1⟩, fun sig h => ?_, va_Nw.use rfl (E.2.2.2.2.2.1.2.1 _ hl)⟩
  have h2 := k.2.2.2.2
  rw [h] at h2
  exact (Option.some.inj h2).symm
theorem w_runSN (E : wE G p l s m args meth c cc own nL) (k : CallSN own host index y) (k2 : CodeOK y cc' maxL' ret' n)
    (hM : vx_Met l y (wWs y cc' maxL' ret') rm (va_Pc As (w_U G M r)) (w_Q G X) (w_X G X) rm.cells rm.slots (g_A G)) (hR : rm.frames + 1 ≤ R.frames ∧ 8 + (maxL' + 11) + rm.locals ≤ R.locals) (hw : w_W G M r s H locs)
    (hn : As.length = n) (hsize : ls.size = nL) (hst : st0 = As.reverse ++ rest) (hrest : (rest.map fun v => v.category).sum ≤ 8) (hdg : decode cc pc = .ok (.invokestatic index, 3)) (hf : cells + rm.cells ≤ R.cells ∧ slots + rm.slots ≤ R.slots) :
    vx_Run p l e R s m args below meth c H locs cells slots rm.cells rm.slots (F0 m pc ls st0) rest (w_Q G X As.toArray) (w_X G X) (g_A G) :=
  vx_runSN (host := host) ⟨E.1, E.2.1, E.2.2.2.2.1, E.2.2.2.1, E.2.2.1⟩ hM ⟨w_callN E k2 k.1 hR, E.2.2.1 _ k.2, trivial⟩ ⟨w_U_blind, fun U hU hW => ⟨rfl, w_U_at E hw hU hW⟩⟩ rfl hn hsize hst (lv_room hrest) hdg hf
theorem w_runIN (E : wE G p l s m args meth c cc own nL) (k : CallIN own host index y) (k2 : CodeOK y cc' maxL' none n)
    (hM : vx_Met l y (wWs y cc' maxL' none) rm (va_Pc (.ref b :: As) (w_U G M r)) (w_Q G X) (w_X G X) rm.cells rm.slots (g_A G)) (hR : rm.frames + 1 ≤ R.frames ∧ 8 + (maxL' + 11) + rm.locals ≤ R.locals) (hw : w_W G M r s H locs)
    (hn : As.length = n) (hsize : ls.size = nL) (hst : st0 = As.reverse ++ .ref b :: rest) (hrest : (rest.map fun v => v.category).sum ≤ 8) (hdg : decode cc pc = .ok (.invokespecial index, 3)) (hf : cells + rm.cells ≤ R.cells ∧ slots + rm.slots ≤ R.slots) :
    vx_Run p l e R s m args below meth c H locs cells slots rm.cells rm.slots (F0 m pc ls st0) rest (w_Q G X (Value.ref b :: As).toArray) (w_X G X) (g_A G) :=
  vx_runIN (host := host) ⟨E.1, E.2.1, E.2.2.2.2.1, E.2.2.2.1, E.2.2.1⟩ hM ⟨w_callN E k2 k.2.1 hR, k.1, E.2.2.1 _ k.2.2⟩ ⟨w_U_blind, fun U hU hW => ⟨rfl, w_U_at E hw hU hW⟩⟩ rfl hn hsize hst (lv_room hrest) hdg hf
theorem w_callU (E : wE G p l s m args meth c cc own nL) (k : CallU own C owner index x y) (k2 : CodeOK y cc' maxL' ret' n) (hR : rm.frames + 1 ≤ R.frames ∧ 8 + (maxL' + 11) + rm.locals ≤ R.locals) : va_CU R s args own C owner index x y cc' maxL' ret' (wWs y cc' maxL' ret') rm rm.cells rm.slots n := by
  obtain ⟨w1, w2, w3, w4, w5, w6, w7⟩ := k
  have hd : owner ≠ "java/lang/invoke/MethodHandle" ∧ owner ≠ "java/lang/invoke/VarHandle" ∧ (parseMethodDescriptor x.desc).map (fun d => d.parameters.length) = some n := ⟨w5.1, w5.2, by rw [w6]; exact k2.2.2.2.2⟩
  have hws : ∀ w ∈ wWs y cc' maxL' ret', w ∈ wTB := fun w hw => by
    rcases List.mem_cons.mp hw with rfl | hw
    · exact k2.1
    · exact hw
  rcases w7 with h | h
  · refine va_cwU (Ts := wTB) n E.2.2.1 (fun w hw => ?_) rfl rfl rfl h hd hR
    rcases List.mem_append.mp hw with hw | hw
    · simp only [List.mem_cons, List.not_mem_nil, or_false] at hw
      have : w ∈ wTB := by
        rcases hw with rfl | rfl | rfl | rfl | rfl
        · exact w1
        · exact w2
        · exact w3
        · exact w4
        · exact k2.2.1
      exact ⟨this, tb_good _ this⟩
    · exact ⟨hws w hw, tb_good _ (hws w hw)⟩
  · refine va_cwA (Ts := wTB) n E.2.2.1 (fun w hw => ?_) rfl rfl rfl (E.2.2.2.2.2.1.2.1 _ h) hd hR
    rcases List.mem_append.mp hw with hw | hw
    · simp only [List.mem_cons, List.not_mem_nil, or_false] at hw
      have : w ∈ wTB := by
        rcases hw with rfl | rfl | rfl | rfl | rfl
        · exact w1
        · exact w2
        · exact w3
        · exact w4
        · exact k2.2.1
      exact ⟨this, tb_good _ this⟩
    · exact ⟨hws w hw, tb_good _ (hws w hw)⟩
theorem w_runU (E : wE G p l s m args meth c cc own nL) (k : CallU own C owner index x y) (k2 : CodeOK y cc' maxL' ret' n)
    (hM : vx_Met l y (wWs y cc' maxL' ret') rm (va_Pc (.ref b :: As) (w_U G M r)) (w_Q G X) (w_X G X) rm.cells rm.slots (g_A G)) (hR : rm.frames + 1 ≤ R.frames ∧ 8 + (maxL' + 11) + rm.locals ≤ R.locals) (hw : w_W G M r s H locs)
    (hcell : ∃ cellB : Cell, H[b]? = some cellB ∧ cellB.vm.isStatics = false ∧ s.vm.findClass C = some cellB.cls) (hn : As.length = n) (hsize : ls.size = nL) (hst : st0 = As.reverse ++ .ref b :: rest) (hrest : (rest.map fun v => v.category).sum ≤ 8) (hdg : decode cc pc = .ok (.invokevirtual index, 3)) (hf : cells + rm.cells ≤ R.cells ∧ slots + rm.slots ≤ R.slots) :
    vx_Run p l e R s m args below meth c H locs cells slots rm.cells rm.slots (F0 m pc ls st0) rest (w_Q G X (Value.ref b :: As).toArray) (w_X G X) (g_A G) :=
  vx_runU ⟨E.1, E.2.1, E.2.2.2.2.1, E.2.2.2.1, E.2.2.1⟩ hM (w_callU E k k2 hR) ⟨w_U_blind, hcell, fun U hU hW => ⟨rfl, w_U_at E hw hU hW⟩⟩ rfl hn hsize hst (lv_room hrest) hdg hf
/-- a receiver among the class's objects -/
theorem w_recv {ci : Nat} (E : wE G p l s m args meth c cc own nL) (hw : w_W G M r s H locs) (hci : ci < 12) (hC : ∃ T N, vwCl[ci]? = some (C, T, N)) (hk : (m_kd M b).1 = 10 + ci) : ∃ cellB : Cell, H[b]? = some cellB ∧ cellB.vm.isStatics = false ∧ s.vm.findClass C = some cellB.cls := by
  obtain ⟨T, N, hC⟩ := hC
  obtain ⟨q', h1, cell, g1, g2, g3, -⟩ := w_at1 hw.1 hci hk
  exact ⟨cell, g1, by rw [g3]; rfl, by rw [g2]; exact (E.2.2.2.2.2.1.1.1 ci _ hC).2.1⟩
theorem w_recvR (E : wE G p l s m args meth c cc own nL) (hw : w_W G M r s H locs) (on : g_on G = true) : ∃ cellB : Cell, H[g_r G]? = some cellB ∧ cellB.vm.isStatics = false ∧ s.vm.findClass "CheekTownModel" = some cellB.cls := by
  obtain ⟨q', h1, cell, g1, g2, g3, -⟩ := rx_fs E hw on
  exact ⟨cell, g1, by rw [g3]; rfl, by rw [g2]; exact (E.2.2.2.2.2.1.1.1 11 _ rfl).2.1⟩
/-- an object's kind, asked ahead of a call -/
def ck (M : Mem) (ci b : Nat) : Option Unit := if (m_kd M b).1 = 10 + ci then some () else none
theorem ck_ok {ci : Nat} {u : Unit} (h : ck M ci b = some u) : (m_kd M b).1 = 10 + ci := by
  unfold ck at h
  split at h
  · next h9 => exact h9
  · cases h
variable {mc1 ms1 cells1 slots1 : Nat} {a9 : Array Value}
theorem w_after {v : Option Value} (hr : vx_Run p l e R s m args below meth c H locs cells slots mc1 ms1 (F0 m pc ls st0) rest (w_Q G X a9) (w_X G X) (g_A G)) (hw : w_W G M r s H locs) (hx : X.1 = .inl v) (hc : cells + mc1 ≤ cells1) (hs : slots + ms1 ≤ slots1)
    (kk : ∀ H1 locs1, w_W G X.2.1 X.2.2 s H1 locs1 → W p l e R s m args below meth c H1 locs1 cells1 slots1 Q (F0 m (pc + 3) ls (v.toList ++ rest))) : W p l e R s m args below meth c H locs cells slots Q (F0 m pc ls st0) := by
  intro T hT Y
  rcases hr T hT Y with ⟨v', st₀, t, T', L, h0, Y', hL, e1, e2, ⟨⟨v2, hv2, hv3⟩, hH, hF⟩, st⟩ | ⟨q, st₀, t, T', L, E, ce, h0, Y', hL, e1, e2, ⟨hE, -⟩, -⟩
  · rw [hx] at hv2
    cases hv2
    cases hv3
    have hk := vx_keep h0 e1 hw.2 (fun _ _ h => h) (fun _ h => h) hL hF
    obtain ⟨t2, a1, b1⟩ := kk T'.heap (locs ++ L) ⟨by rw [e1]; exact hH, hk.2.2⟩ T' rfl (stand_widen Y' hc hs)
    exact ⟨t2, st t2 a1, b1⟩
  · rw [hx] at hE; cases hE
theorem w_afterX (hr : vx_Run p l e R s m args below meth c H locs cells slots mc1 ms1 (F0 m pc ls st0) rest (w_Q G X a9) (w_X G X) (g_A G)) (hw : w_W G M r s H locs) (hc : cells + mc1 ≤ cells1) (hs : slots + ms1 ≤ slots1)
    (kk : ∀ v H1 locs1, X.1 = .inl v → w_W G X.2.1 X.2.2 s H1 locs1 → W p l e R s m args below meth c H1 locs1 cells1 slots1 Q (F0 m (pc + 3) ls (v.toList ++ rest)))
    (kx : ∀ E H1 locs1 q ce, X.1 = .inr E → w_W G X.2.1 X.2.2 s H1 locs1 → H1[q]? = some ce → ce.vm = .none → s.vm.findClass E = some ce.cls → vx_W p l e R s m args below meth c H1 locs1 cells1 slots1 Q (F0 m pc ls rest) q) : W p l e R s m args below meth c H locs cells slots Q (F0 m pc ls st0) := by
  intro T hT Y
  rcases hr T hT Y with ⟨v', st₀, t, T', L, h0, Y', hL, e1, e2, ⟨⟨v2, hv2, hv3⟩, hH, hF⟩, st⟩ | ⟨q, st₀, t, T', L, E, ce, h0, Y', hL, e1, e2, ⟨hE, hH, hF⟩, hce, hcv, hcl, st⟩
  · cases hv3
    have hk := vx_keep h0 e1 hw.2 (fun _ _ h => h) (fun _ h => h) hL hF
    obtain ⟨t2, a1, b1⟩ := kk v' T'.heap (locs ++ L) hv2 ⟨by rw [e1]; exact hH, hk.2.2⟩ T' rfl (stand_widen Y' hc hs)
    exact ⟨t2, st t2 a1, b1⟩
  · have hk := vx_keep h0 e1 hw.2 (fun _ _ h => h) (fun _ h => h) hL hF
    obtain ⟨t2, a1, b1⟩ := kx E T'.heap (locs ++ L) q ce hE ⟨by rw [e1]; exact hH, hk.2.2⟩ (by rw [e1]; exact hce) hcv hcl T' rfl (stand_widen Y' hc hs)
    exact ⟨t2, st.trans a1, b1⟩
/-- thrown on, by a method without handlers -/
theorem w_out {E9 : String} {q : Addr} {ce : Cell} {z : β} (E : wE G p l s m args meth c cc own nL) (hno : ∀ x ∈ c.exceptionTable.toList, False) (hw : w_W G M r s H locs) (hce : H[q]? = some ce) (hcv : ce.vm = .none) (hcl : s.vm.findClass E9 = some ce.cls) (hc : cells ≤ mc) (hs : slots ≤ ms) (hz : cv z = (.inr E9, M, r)) :
    vx_W p l e R s m args below meth c H locs cells slots (PQ G below args s mc ms cv (some z)) (F0 m pc ls rest) q := by
  intro T hT Y
  have k := vx_out (Qc := w_Q G (cv z)) (XC := w_X G (cv z)) (free := g_A G) (mc := mc) (ms := ms) (R := R) (p := p) (l := l) (e := e) (m := m) (args := args) (below := below) (locs := locs) (cells := cells) (slots := slots) (rest := rest) (ls := ls) (pc := pc) (fun x hx => (hno x hx).elim) E.2.2.2.2.2.2.2.2.1 hce hcv hcl (fun t ht _ => ⟨by rw [hz], by rw [hz, ht]; exact hw.1, hw.2.F ht⟩) hw.2.2.2 hc hs
  obtain ⟨t, a, b⟩ := k T hT Y
  exact ⟨t, a, fun z' h' => by cases h'; exact b⟩
/-- what a throw stands on -/
def ThrOK (own cls text : String) (names : List String) (ik is ic : Nat) : Prop := Bundle.fit cls = true ∧ (∀ n ∈ names, Bundle.fit n = true) ∧ Cond.classLink own ik cls ∈ wTB ∧ Cond.initialized cls ∈ wTB ∧ (∃ i : Nat, s_tab[i]? = some (own, is, text)) ∧ (∀ w ∈ vx_atS own ic cls names, w ∈ wTB ∨ w ∈ wXW) ∧ (∀ w ∈ Cond.classLink own ik cls :: Cond.initialized cls :: vx_atS own ic cls names, vx_ot w = true)
theorem gx_throw {cls text : String} {names : List String} {ik is ic : Nat} {z : β} (E : wE G p l s m args meth c cc own nL) (hno : ∀ x ∈ c.exceptionTable.toList, False) (hw : w_W G M r s H locs) (F : ThrOK own cls text names ik is ic) (hsize : ls.size = nL)
    (d0 : decode cc pc = .ok (.new ik, 3)) (d3 : decode cc (pc + 3) = .ok (.dup, 1)) (d4 : decode cc (pc + 4) = .ok (.ldc is, 2)) (d6 : decode cc (pc + 6) = .ok (.invokespecial ic, 3)) (d9 : decode cc (pc + 9) = .ok (.athrow, 1))
    (hRframes : names.length + 3 < R.frames) (hRlocals : (rest.map fun v => v.category).sum + (13 * (names.length + 1) + 43) ≤ R.locals) (hRcells : cells + 1 ≤ R.cells) (hRslots : slots + 6 ≤ R.slots) (hc : cells + 1 ≤ mc) (hs : slots + 6 ≤ ms) (hz : cv z = (.inr cls, m_new M (0, 0), r)) :
    W p l e R s m args below meth c H locs cells slots (PQ G below args s mc ms cv (some z)) (F0 m pc ls rest) := by
  obtain ⟨h1, h2, h3, h4, ⟨i, h5⟩, h6, h7⟩ := F
  have E2 := E
  obtain ⟨hx, hb, hts, hown, hml, hTT, hC, hlo, hlk, hst⟩ := E
  have k := vx_throwS (Qc := w_Q G (cv z)) (XC := w_X G (cv z)) (free := g_A G) (mc := mc) (ms := ms) (R := R) (p := p) (l := l) (e := e) (m := m) (args := args) (below := below) (locs := locs) (cells := cells) (slots := slots) (rest := rest) (ls := ls) (pc := pc) (A := g_A G) hx hb hst hown h1 h2 (hts _ h3) (hts _ h4) (hTT.2.2.1 i _ h5) (fun w hw9 => ?_) h7 hC.2.1 hC.2.2.1 hw.2 (hsize.trans hml.symm) d0 d3 d4 d6 d9 (fun x hx9 => (hno x hx9).elim) hRframes hRlocals hRcells hRslots hlk (fun t hal hz1 ho => ?_) hw.2.2.2 hc hs
  · intro T hT Y
    obtain ⟨t, a, b⟩ := k T hT Y
    exact ⟨t, a, fun z' h' => by cases h'; exact b⟩
  · rcases h6 w hw9 with h | h
    · exact hts w h
    · exact va_Nw.use (w_x_on (List.mem_filter.mp h).2) (hTT.2.1 w h)
  · have hw2 : w_W G (m_new M (0, 0)) r s t.heap locs := hw.new hlo hz1 ho (fun e9 he => absurd (by rw [m_new_kd]) (w_ce_0 he))
    exact ⟨by rw [hz], by rw [hz]; exact hw2.1, hw2.2.F rfl⟩
end Rc
section Rd
variable {l : Launch} {y : MethodName} {cc : ByteArray} {maxL : Nat} {ret : Option FieldType} {rm : Room} {mc ms : Nat} {G : wG} {av : List Value} {M : Mem} {r : Rho} {β : Type} {cv : β → Out} {o : Option β} {own : String}
/-- a contract out of a walk from the entry -/
theorem Ctr.of (hy : plainName y.cls = true) (hfl : l.stackTraces = false) (hown : y.cls = own) (hml : (lg_sl av).length ≤ maxL)
    (body : ∀ p e s m args below meth c, wE G p l s m args meth c cc own maxL → (∀ x ∈ c.exceptionTable.toList, False) → meth.sig.returnType = ret → meth.name = y.name → w_W G M r s s.heap [] → ∀ ls, lv_has ls maxL (lv_args 0 av) →
      W p l e rm s m args below meth c s.heap [] 0 0 (PQ G below args s mc ms cv o) (F0 m 0 ls [])) : Ctr l y (wWs y cc maxL ret) rm mc ms G av M r (o.map cv) := by
  intro x hx
  obtain ⟨z, hz, rfl⟩ := Option.map_eq_some_iff.mp hx
  refine vx_ofW (cc := cc) (maxL := maxL) (ret := ret) hy rfl ?_
  intro p e s m args below meth c s₁ B hmx hno hv
  obtain ⟨rfl, hH, hT, hC, hlo⟩ := hv
  have hts : ∀ w ∈ wTB, w.before av.toArray s = true := fun w hw => atoms_spec (ws := wWs y cc maxL ret) B.pre w (List.mem_cons_of_mem _ hw)
  have hE : wE G p l s m av.toArray meth c cc own maxL := ⟨B.exec, B.bytes, hts, by rw [← hown]; exact findClass_of_methodNamed B.named, hmx, hT, hC, hlo, B.notSynchronized, hfl⟩
  have hl := lv_entry av (n := maxL) hml
  rw [lg_entry_eq]
  have K := body p e s m av.toArray below meth c hE hno B.returns (name_of_methodNamed B.named B.method).1 ⟨hH, va_S.rf⟩ _ hl
  intro T hTT Y
  obtain ⟨t, a, b⟩ := K T hTT Y
  exact ⟨t, a, b z hz⟩
end Rd
