/-! words that the tables alone decide, but that aren't among the good ones -/
def w_isX : Cond → Bool | .methodLinkNest .. => true | .declares _ => true | .castable .. => true | _ => false
def wXW : List Cond := lw_tbl.filter w_isX
theorem w_x_on : ∀ {w : Cond}, w_isX w = true → w.onTables = true := by
  intro w h
  cases w <;> first | rfl | (simp [w_isX] at h)
theorem w_x_warm {s U : State} (hW : s.WarmedH U.vm) : ∀ {w : Cond}, w_isX w = true → va_Nw w s → va_Nw w U := by
  intro w h hw
  cases w <;> first | exact va_Nw.warmM hW hw | exact va_Nw.warmD hW hw | exact va_Nw.warmC hW hw | (simp [w_isX] at h)
theorem xw_of {w : Cond} (h : w ∈ tables_1) (g : w_isX w = true) : w ∈ wXW := List.mem_filter.mpr ⟨List.mem_append_right _ h, g⟩
/-- what the tables say, of a state -/
def w_T (G : wG) (U : State) : Prop :=
  va_K (g_D G) vwCl [(g_I G, .int), (g_P G, .object "CheekTown$Person"), (g_T G, .object "CheekTown$Town"), (g_J G, .long)] U ∧ (∀ w ∈ wXW, va_Nw w U) ∧ (∀ i q, s_tab[i]? = some q → vk_R q.1 q.2.1 q.2.2 (g_sk G i) U) ∧ va_AO "CheekTown$Person" U ∧ va_AO "CheekTown$Town" U ∧ (∀ q ∈ s_nc, va_Nc q.1 q.2 U)
theorem w_T.warm {G : wG} {s U : State} (hW : s.WarmedH U.vm) (h : w_T G s) : w_T G U := by
  obtain ⟨h1, h2, h3, h4, h5, h6⟩ := h
  exact ⟨va_K.moved hW.alike h1, fun w hw => w_x_warm hW (List.mem_filter.mp hw).2 (h2 w hw), fun i q hq => vk_R.warm hW (h3 i q hq), va_AO.moved hW.alike h4, va_AO.moved hW.alike h5, fun q hq => va_Nc.moved hW.alike (h6 q hq)⟩
/-- what lies in the heap below ours, of a state and a heap -/
def w_C (G : wG) (U : State) (H : Heap) : Prop :=
  (∀ i q, s_tab[i]? = some q → va_O "java/lang/String" (g_sk G i) (g_A G) U H ∧ va_OF "java/lang/String" "code\x72" "B" (.int 0) (g_sk G i) (g_A G) U H ∧ va_OF "java/lang/String" "value" "[B" (.ref (g_sv G i)) (g_sk G i) (g_A G) U H ∧ va_T .byte (g_sv G i) (s_byt i).length (fun j => .int ((s_byt i).getD j 0)) (g_A G) U H) ∧
  vx_Zq Bundle.tN "UNASSIGNED_STACK" Bundle.steD (g_A G) U H ∧ vx_Zq Bundle.tN "SUPPRESSED_SENTINEL" Bundle.listD (g_A G) U H ∧
  va_Z "java/lang/String" "COMPACT_STRINGS" "Z" (.int 1) (g_A G) U H ∧ va_Zq "jdk/internal/util/Preconditions" "SIOOBE_FORMATTER" "Ljava/util/function/BiFunction;" (g_A G) U H
theorem w_C.moved {G : wG} {s U : State} {H : Heap} (hW : s.vm.Alike U.vm) (h : w_C G s H) : w_C G U H := by
  obtain ⟨h1, h2, h3, h4, h5⟩ := h
  exact ⟨fun i q hq => ⟨va_O.moved hW (h1 i q hq).1, va_OF.moved hW (h1 i q hq).2.1, va_OF.moved hW (h1 i q hq).2.2.1, va_T.moved hW (h1 i q hq).2.2.2⟩, vx_Zq.moved hW h2, vx_Zq.moved hW h3, va_Z.moved hW h4, va_Zq.moved hW h5⟩
theorem w_C.kept {G : wG} {U : State} {H H1 : Heap} (h : w_C G U H) (hq : ∀ a : Nat, a < H.size → ¬ g_A G a → H1[a]? = H[a]?) : w_C G U H1 := by
  obtain ⟨h1, h2, h3, h4, h5⟩ := h
  exact ⟨fun i q hs => ⟨(h1 i q hs).1.kept hq, (h1 i q hs).2.1.kept hq, (h1 i q hs).2.2.1.kept hq, (h1 i q hs).2.2.2.kept hq⟩, h2.kept hq, h3.kept hq, va_Z.kept h4 hq, va_Zq.kept h5 hq⟩
/-- the whole world at a call -/
def w_U (G : wG) (M : Mem) (r : Rho) (U : State) : Prop := w_H G M r U.heap ∧ w_T G U ∧ w_C G U U.heap ∧ g_lo G ≤ U.heap.size
/-- what a walk stands on from its entry to its end -/
def wE (G : wG) (p : Program) (l : Launch) (s : State) (m : MethodId) (args : Array Value) (meth : Method) (c : Code) (cc : ByteArray) (own : String) (nL : Nat) : Prop :=
  p.tables.exec = Jvm.exec ∧ c.code = cc ∧ (∀ w ∈ wTB, w.before args s = true) ∧ s.vm.findClass own = some m.cls ∧ c.maxLocals = nL ∧ w_T G s ∧ w_C G s s.heap ∧ g_lo G ≤ s.heap.size ∧ meth.locks = false ∧ l.stackTraces = false
/-! results -/
abbrev Res : Type := Option Value ⊕ String
abbrev Out : Type := Res × Mem × Rho
def w_Q (G : wG) (x : Out) : Array Value → State → Outcome → State → Prop := fun _ st o t => (∃ v, x.1 = Sum.inl v ∧ o = .returned v) ∧ w_H G x.2.1 x.2.2 t.heap ∧ va_F (g_A G) st t
def w_X (G : wG) (x : Out) : String → State → State → Prop := fun E st t => x.1 = Sum.inr E ∧ w_H G x.2.1 x.2.2 t.heap ∧ va_F (g_A G) st t
/-- a method's contract: wherever the function says what comes, that comes -/
def Ctr (l : Launch) (y : MethodName) (ws : List Cond) (rm : Room) (mc ms : Nat) (G : wG) (av : List Value) (M : Mem) (r : Rho) (o : Option Out) : Prop :=
  ∀ x, o = some x → vx_Met l y ws rm (va_Pc av (w_U G M r)) (w_Q G x) (w_X G x) mc ms (g_A G)
/-- what the rest of a walk owes -/
def PQ {β : Type} (G : wG) (below : List Frame) (args : Array Value) (s : State) (mc ms : Nat) (cv : β → Out) (o : Option β) : State → Prop := fun t =>
  ∀ z, o = some z → vx_MQ below (w_Q G (cv z)) (w_X G (cv z)) args s mc ms (g_A G) t
section Rw
variable {p : Program} {l : Launch} {e : Env} {R : Room} {s : State} {m : MethodId} {args : Array Value} {below : List Frame} {meth : Method} {c : Code} {H : Heap} {locs : List Loc} {cells slots : Nat} {Q : State → Prop}
variable {cc : ByteArray} {pc : Nat} {ls : Array Slot} {rest : List Value} {G : wG} {own : String} {nL mc ms : Nat} {M : Mem} {r : Rho} {β : Type} {cv : β → Out}
theorem W_none {g : JFrame} : W p l e R s m args below meth c H locs cells slots (PQ G below args s mc ms cv none) g := by
  intro T hT X
  exact ⟨_, Steps.refl _, fun z h => nomatch h⟩
/-- nothing is known to come: nothing is owed -/
theorem W_bind {α : Type} {x : Option α} {k : α → Option β} {g : JFrame} (h : ∀ v, x = some v → W p l e R s m args below meth c H locs cells slots (PQ G below args s mc ms cv (k v)) g) : W p l e R s m args below meth c H locs cells slots (PQ G below args s mc ms cv (x.bind k)) g := by
  cases x with
  | none => exact W_none
  | some v => exact h v rfl
theorem W_ite {P : Prop} [Decidable P] {x y : Option β} {g : JFrame} (h1 : P → W p l e R s m args below meth c H locs cells slots (PQ G below args s mc ms cv x) g) (h2 : ¬ P → W p l e R s m args below meth c H locs cells slots (PQ G below args s mc ms cv y) g) : W p l e R s m args below meth c H locs cells slots (PQ G below args s mc ms cv (if P then x else y)) g := by
  by_cases h : P
  · rw [if_pos h]; exact h1 h
  · rw [if_neg h]; exact h2 h
theorem W_eq {x y : Option β} {g : JFrame} (h : x = y) (k : W p l e R s m args below meth c H locs cells slots (PQ G below args s mc ms cv y) g) : W p l e R s m args below meth c H locs cells slots (PQ G below args s mc ms cv x) g := h ▸ k
/-! reading -/
def gI (M : Mem) (ci a j : Nat) : Option Int32 := if (m_kd M a).1 = 10 + ci then some (m_iv M a j) else none
def gR (M : Mem) (ci a j : Nat) : Option Nat := if (m_kd M a).1 = 10 + ci then m_rv M a j else none
def gN (M : Mem) (ci a j : Nat) : Option (Option Nat) := if (m_kd M a).1 = 10 + ci then some (m_rv M a j) else none
def pI (M : Mem) (ci a j : Nat) (v : Int32) : Option Mem := if (m_kd M a).1 = 10 + ci then some (m_setI M a j v) else none
def pZ (M : Mem) (ci a j : Nat) (v : Int32) : Option Mem := if (m_kd M a).1 = 10 + ci ∧ (v = 0 ∨ v = 1) then some (m_setI M a j v) else none
/-- a reference put into a field: the value's kind as the field has it, or null -/
def pR (M : Mem) (ci a j : Nat) (v : Nat) : Option Mem := if (m_kd M a).1 = 10 + ci then some (m_setR M a j (some v)) else none
def pN (M : Mem) (ci a j : Nat) (v : Option Nat) : Option Mem := if (m_kd M a).1 = 10 + ci then some (m_setR M a j v) else none
/-- what a field's link must be -/
def FldOK (own : String) (index ci j : Nat) : Prop := ∃ (C : String) (T : u_T) (N : Nat) (ty : Nat → FieldType) (ref : String), ci < 12 ∧ vwCl[ci]? = some (C, T, N) ∧ N = w_nf ci ∧ j < N ∧ (∀ w ∈ u_ws C T N, w ∈ wTB) ∧ (∀ k, k < N → parseFieldDescriptor (T k).2.2.1 = some (ty k)) ∧ (∀ a, a < N → ∀ b, b < N → a ≠ b → (T a).2.1 ≠ (T b).2.1) ∧ Cond.fieldLink own index ref (T j).2.1 (T j).2.2.1 ∈ wTB ∧ (ref = (T j).1 ∨ Cond.sameField ref (T j).1 (T j).2.1 (T j).2.2.1 ∈ wTB)
/-- .. and that it may be put: its type -/
def FldTy (ci j : Nat) (ty : FieldType) (fin : Bool) : Prop := ∃ (C : String) (T : u_T) (N : Nat), vwCl[ci]? = some (C, T, N) ∧ parseFieldDescriptor (T j).2.2.1 = some ty ∧ (T j).2.2.2 = fin
theorem w_at {a ci : Nat} (hw : w_H G M r H) (hci : ci < 12) (hk : (m_kd M a).1 = 10 + ci) : va_P (g_D G) vwCl [(a, .inr (ci, w_fs (m_iv M a) (m_rv M a) ci))] H := by
  intro k q hq
  have hz : k < 1 := (List.getElem?_eq_some_iff.mp hq).1
  rw [show k = 0 by omega] at hq
  cases hq
  exact hw.2.2.1 a _ (w_ce_o hci hk)
theorem fld_get {index ci j a : Nat} {v : Value} (E : wE G p l s m args meth c cc own nL) (hw : w_H G M r H) (F : FldOK own index ci j) (hk : (m_kd M a).1 = 10 + ci) (hv : w_fv (m_iv M a) (m_rv M a) ci j = v) (hdg : decode cc pc = .ok (.getfield index, 3))
    (kk : W p l e R s m args below meth c H locs cells slots Q (F0 m (pc + 3) ls (v :: rest))) : W p l e R s m args below meth c H locs cells slots Q (F0 m pc ls (.ref a :: rest)) := by
  obtain ⟨hx, hb, hts, hown, -, hT, -⟩ := E
  obtain ⟨C, T, N, ty, ref, hci, hcl, hN, hj, hin, -, -, hl, hsame⟩ := F
  refine va_get (D := g_D G) (C := C) (T := T) (N := N) (ref := ref) hx hb hts hin hown hT.1 (w_at hw hci hk) 0 rfl hcl j hj (hts _ hl) (fun x hx' => ?_) (v := v) ?_ hdg kk
  · rcases hsame with rfl | h
    · exact hx'
    · exact u_same (hts _ h) x hx'
  · rw [← hv]; exact w_fs_at (hN ▸ hj)
theorem gx_getI {index ci j a : Nat} {k : Int32 → Option β} (E : wE G p l s m args meth c cc own nL) (hw : w_W G M r s H locs) (F : FldOK own index ci j) (hr : w_rk ci j = false) (hdg : decode cc pc = .ok (.getfield index, 3))
    (kk : ∀ v, gI M ci a j = some v → W p l e R s m args below meth c H locs cells slots (PQ G below args s mc ms cv (k v)) (F0 m (pc + 3) ls (.int v :: rest))) : W p l e R s m args below meth c H locs cells slots (PQ G below args s mc ms cv ((gI M ci a j).bind k)) (F0 m pc ls (.ref a :: rest)) := by
  refine W_bind fun v hv => ?_
  by_cases hk : (m_kd M a).1 = 10 + ci
  · have hv' : m_iv M a j = v := by simpa [gI, hk] using hv
    exact fld_get E hw.1 F hk (by simp [w_fv, hr, hv']) hdg (kk v hv)
  · simp [gI, hk] at hv
theorem gx_getR {index ci j a : Nat} {k : Nat → Option β} (E : wE G p l s m args meth c cc own nL) (hw : w_W G M r s H locs) (F : FldOK own index ci j) (hr : w_rk ci j = true) (hdg : decode cc pc = .ok (.getfield index, 3))
    (kk : ∀ v, gR M ci a j = some v → W p l e R s m args below meth c H locs cells slots (PQ G below args s mc ms cv (k v)) (F0 m (pc + 3) ls (.ref v :: rest))) : W p l e R s m args below meth c H locs cells slots (PQ G below args s mc ms cv ((gR M ci a j).bind k)) (F0 m pc ls (.ref a :: rest)) := by
  refine W_bind fun v hv => ?_
  by_cases hk : (m_kd M a).1 = 10 + ci
  · have hv' : m_rv M a j = some v := by simpa [gR, hk] using hv
    exact fld_get E hw.1 F hk (by simp [w_fv, hr, hv', va_rf]) hdg (kk v hv)
  · simp [gR, hk] at hv
theorem gx_getN {index ci j a : Nat} {k : Option Nat → Option β} (E : wE G p l s m args meth c cc own nL) (hw : w_W G M r s H locs) (F : FldOK own index ci j) (hr : w_rk ci j = true) (hdg : decode cc pc = .ok (.getfield index, 3))
    (kk : ∀ v, gN M ci a j = some v → W p l e R s m args below meth c H locs cells slots (PQ G below args s mc ms cv (k v)) (F0 m (pc + 3) ls (va_rf v :: rest))) : W p l e R s m args below meth c H locs cells slots (PQ G below args s mc ms cv ((gN M ci a j).bind k)) (F0 m pc ls (.ref a :: rest)) := by
  refine W_bind fun v hv => ?_
  by_cases hk : (m_kd M a).1 = 10 + ci
  · have hv' : m_rv M a j = v := by simpa [gN, hk] using hv
    exact fld_get E hw.1 F hk (by simp [w_fv, hr, hv']) hdg (kk v hv)
  · simp [gN, hk] at hv
/-! writing: the world behind a change of one known cell -/
theorem w_H.change {N : Mem} {H1 : Heap} {a : Nat} (hw : w_H G M r H) (hk : (m_kd M a).1 ≠ 0) (hz : H1.size = H.size) (ho : ∀ q : Nat, q < H.size → q ≠ a → H1[q]? = H[q]?) (hsz : m_sz N = m_sz M) (hkd : m_kd N = m_kd M)
    (hne : ∀ b, b ≠ a → w_ce G N b = w_ce G M b) (ha : ∀ e, w_ce G N a = some e → va_at (g_D G) vwCl (a, e) H1) : w_H G N r H1 := by
  obtain ⟨h1, h2, h3, h4⟩ := hw
  refine ⟨by rw [hz, hsz, h1], fun b hb => by rw [hsz]; rw [hkd] at hb; exact h2 b hb, fun b e hb => ?_, fun hon => ?_⟩
  · by_cases hba : b = a
    · subst hba; exact ha e hb
    · rw [hne b hba] at hb
      have h5 := h3 b e hb
      exact h5.kept (ho b h5.lt hba)
  · obtain ⟨g1, g2, g3, g4, g5⟩ := h4 hon
    have hout : ∀ k, k < 15 → g_r G + k ≠ a := fun k hk' he => hk (by rw [← he]; exact g3 k hk')
    refine ⟨g1, by rw [hsz]; exact g2, fun k hk' => by rw [hkd]; exact g3 k hk', ?_, fun j hj => ?_⟩
    · exact g4.kept (ho _ g4.lt (by have := hout 0 (by omega); simpa using this))
    · have h6 := g5 j hj
      refine h6.kept (ho _ h6.lt ?_)
      have : r_off j < 15 := by unfold r_off; split <;> omega
      exact hout _ this
theorem w_W.change {N : Mem} {H1 : Heap} {L : List Loc} {a : Nat} (hw : w_W G M r s H locs) (hk : (m_kd M a).1 ≠ 0) (hz : H1.size = H.size) (ho : ∀ q : Nat, q ≠ a → H1[q]? = H[q]?) (hl : ∀ q ∈ L, q.base = a) (hsz : m_sz N = m_sz M) (hkd : m_kd N = m_kd M)
    (hne : ∀ b, b ≠ a → w_ce G N b = w_ce G M b) (ha : ∀ e, w_ce G N a = some e → va_at (g_D G) vwCl (a, e) H1) : w_W G N r s H1 (locs ++ L) := by
  have hlo : g_lo G ≤ a := (hw.1.2.1 a hk).1
  refine ⟨hw.1.change hk hz (fun q _ h2 => ho q h2) hsz hkd hne ha, Nat.le_trans hw.2.1 (by omega), fun q h1 h2 => ?_, fun q hq => ?_⟩
  · have hqa : q ≠ a := fun he => h2 (by rw [he]; exact hlo)
    rw [ho q hqa]
    exact hw.2.2.1 q h1 h2
  · rcases List.mem_append.mp hq with h | h
    · exact hw.2.2.2 q h
    · show g_lo G ≤ q.base
      rw [hl q h]; exact hlo
theorem fld_put {index ci j a : Nat} {fs : List Value} {v : Value} {ty : FieldType} (E : wE G p l s m args meth c cc own nL) (hat : va_at (g_D G) vwCl (a, .inr (ci, fs)) H) (F : FldOK own index ci j) (hlen : fs.length = w_nf ci) (hT : FldTy ci j ty false) (hn : narrow ty v = v) (hfit : fits ty v = true) (hdg : decode cc pc = .ok (.putfield index, 3))
    (kk : ∀ (H1 : Heap) (L : List Loc), va_at (g_D G) vwCl (a, .inr (ci, fs.set j v)) H1 → H1.size = H.size → (∀ q : Nat, q ≠ a → H1[q]? = H[q]?) → (∀ q ∈ L, q.base = a) → W p l e R s m args below meth c H1 (locs ++ L) cells slots Q (F0 m (pc + 3) ls rest)) : W p l e R s m args below meth c H locs cells slots Q (F0 m pc ls (v :: .ref a :: rest)) := by
  obtain ⟨hx, hb, hts, hown, -, hTT, -⟩ := E
  obtain ⟨C, T, N, ty0, ref, hci, hcl, hN, hj, hin, hty, hnm, hl, hsame⟩ := F
  obtain ⟨C', T', N', hcl', hd, hfin⟩ := hT
  cases Option.some.inj (hcl.symm.trans hcl')
  have hap := va_apart (own := own) hts hin ty0 hty hnm hTT.1 hcl
  obtain ⟨r9, h1, cell, q1, q2, q3, q4⟩ := hat
  have hr : r9 = (C, T, N) := Option.some.inj (h1.symm.trans hcl)
  subst hr
  obtain ⟨hS, hfc, kC, hkC, hkind⟩ := hTT.1.1 ci _ hcl
  obtain ⟨cf, kf, fi, f, hi, hsl⟩ := hS j hj
  have hlay := hts _ (hin _ (u_in_lay hj))
  unfold u_lay at hlay
  rw [if_neg (by rw [hfin]; decide)] at hlay
  have hst := (u_facts hfc hkC (u_lays hts hin hj) hi).1
  have h6 := u_store hfc hkC hkind hlay hi hd hn hfit
  have hsame' : s.fieldFound? ref (T j).2.1 (T j).2.2.1 = some (cf, kf, fi, f) := by
    rcases hsame with rfl | h
    · exact hi
    · exact u_same (hts _ h) _ hi
  refine W.putK hx hb (f := f) ⟨hown, hts _ hl, ⟨_, _, _, hsame'⟩, hst⟩ (by rw [q2]; exact h6) q1 q3 (by rw [hsl]; exact k2_hasslot (q4 j hj)) rfl rfl hdg fun H' e1 e2 e3 => ?_
  rw [hsl] at e1 ⊢
  exact kk H' _ ⟨_, hcl, t_OB.to (V := updV (vp_V fs) j v) ⟨_, e1, q2, q3, t_set q4 hap hj v⟩ (fun i _ => vp_updV_set (by rw [hlen, ← hN]; exact hj) v i)⟩ e2 e3 (by simp)
theorem fld_putF {index ci j a : Nat} {fs : List Value} {v : Value} {ty : FieldType} (E : wE G p l s m args meth c cc own nL) (hat : va_at (g_D G) vwCl (a, .inr (ci, fs)) H) (F : FldOK own index ci j) (hlen : fs.length = w_nf ci) (hT : FldTy ci j ty true) (hin2 : meth.name = "<init>") (hdecl : ∃ (C : String) (T : u_T) (N : Nat), vwCl[ci]? = some (C, T, N) ∧ (T j).1 = own) (hn : narrow ty v = v) (hfit : fits ty v = true) (hdg : decode cc pc = .ok (.putfield index, 3))
    (kk : ∀ (H1 : Heap) (L : List Loc), va_at (g_D G) vwCl (a, .inr (ci, fs.set j v)) H1 → H1.size = H.size → (∀ q : Nat, q ≠ a → H1[q]? = H[q]?) → (∀ q ∈ L, q.base = a) → W p l e R s m args below meth c H1 (locs ++ L) cells slots Q (F0 m (pc + 3) ls rest)) : W p l e R s m args below meth c H locs cells slots Q (F0 m pc ls (v :: .ref a :: rest)) := by
  obtain ⟨hx, hb, hts, hown, -, hTT, -⟩ := E
  obtain ⟨C, T, N, ty0, ref, hci, hcl, hN, hj, hin, hty, hnm, hl, hsame⟩ := F
  obtain ⟨C', T', N', hcl', hd, hfin⟩ := hT
  cases Option.some.inj (hcl.symm.trans hcl')
  obtain ⟨C'', T'', N'', hcl'', hdecl⟩ := hdecl
  cases Option.some.inj (hcl.symm.trans hcl'')
  have hap := va_apart (own := own) hts hin ty0 hty hnm hTT.1 hcl
  obtain ⟨r9, h1, cell, q1, q2, q3, q4⟩ := hat
  have hr : r9 = (C, T, N) := Option.some.inj (h1.symm.trans hcl)
  subst hr
  obtain ⟨hS, hfc, kC, hkC, hkind⟩ := hTT.1.1 ci _ hcl
  obtain ⟨cf, kf, fi, f, hi, hsl⟩ := hS j hj
  have hlay := hts _ (hin _ (u_in_lay hj))
  unfold u_lay at hlay
  rw [if_pos hfin] at hlay
  have hst := (u_facts hfc hkC (u_lays hts hin hj) hi).1
  have hcf : m.cls = cf := by
    obtain ⟨_, _, c', _, _, _, -, -, hf', -, -, -, hown2, -⟩ := Cond.laysFinal_spec hlay
    have e1 : c' = cf := by have := hi.symm.trans hf'; simp at this; exact this.1.symm
    rw [hdecl] at hown2
    rw [← e1]; exact Option.some.inj (hown.symm.trans hown2)
  have h6 := u_fits hfc hkC hkind (Or.inr hlay) hi hd hn hfit
  have hsame' : s.fieldFound? ref (T j).2.1 (T j).2.2.1 = some (cf, kf, fi, f) := by
    rcases hsame with rfl | h
    · exact hi
    · exact u_same (hts _ h) _ hi
  refine W.putFinK hx hb hown (hts _ hl) hsame' hst hcf hin2 (by rw [q2]; exact h6) q1 q3 (by rw [hsl]; exact k2_hasslot (q4 j hj)) rfl rfl hdg fun H' e1 e2 e3 => ?_
  rw [hsl] at e1 ⊢
  exact kk H' _ ⟨_, hcl, t_OB.to (V := updV (vp_V fs) j v) ⟨_, e1, q2, q3, t_set q4 hap hj v⟩ (fun i _ => vp_updV_set (by rw [hlen, ← hN]; exact hj) v i)⟩ e2 e3 (by simp)
theorem w_at1 {a ci : Nat} (hw : w_H G M r H) (hci : ci < 12) (hk : (m_kd M a).1 = 10 + ci) : va_at (g_D G) vwCl (a, .inr (ci, w_fs (m_iv M a) (m_rv M a) ci)) H := hw.2.2.1 a _ (w_ce_o hci hk)
theorem w_setI_ce {a j b : Nat} {v : Int32} (h : b ≠ a) : w_ce G (m_setI M a j v) b = w_ce G M b := by
  refine w_ce_eq rfl ?_ rfl rfl
  funext k
  show up2 (m_iv M) a j v b k = m_iv M b k
  simp [up2, h]
theorem w_setR_ce {a j b : Nat} {v : Option Nat} (h : b ≠ a) : w_ce G (m_setR M a j v) b = w_ce G M b := by
  refine w_ce_eq rfl rfl ?_ rfl
  funext k
  show up2 (m_rv M) a j v b k = m_rv M b k
  simp [up2, h]
theorem w_setL_ce {a j b : Nat} {v : Int64} (h : b ≠ a) : w_ce G (m_setL M a j v) b = w_ce G M b := by
  refine w_ce_eq rfl rfl rfl ?_
  funext k
  show up2 (m_lv M) a j v b k = m_lv M b k
  simp [up2, h]
theorem w_setI_fs {a j ci : Nat} {v : Int32} : w_fs (m_iv (m_setI M a j v) a) (m_rv (m_setI M a j v) a) ci = w_fs (fun k => if k = j then v else m_iv M a k) (m_rv M a) ci := by
  have h : m_iv (m_setI M a j v) a = fun k => if k = j then v else m_iv M a k := by
    funext k
    show up2 (m_iv M) a j v a k = _
    simp [up2]
  rw [h]; rfl
theorem w_setR_fs {a j ci : Nat} {v : Option Nat} : w_fs (m_iv (m_setR M a j v) a) (m_rv (m_setR M a j v) a) ci = w_fs (m_iv M a) (fun k => if k = j then v else m_rv M a k) ci := by
  have h : m_rv (m_setR M a j v) a = fun k => if k = j then v else m_rv M a k := by
    funext k
    show up2 (m_rv M) a j v a k = _
    simp [up2]
  rw [h]; rfl
theorem W_putI {index ci j a : Nat} {v : Int32} {L : List Loc} {H1 : Heap} (hw : w_W G M r s H locs) (hci : ci < 12) (hk : (m_kd M a).1 = 10 + ci) (hr : w_rk ci j = false) (h1 : va_at (g_D G) vwCl (a, .inr (ci, (w_fs (m_iv M a) (m_rv M a) ci).set j (.int v))) H1) (h2 : H1.size = H.size) (h3 : ∀ q : Nat, q ≠ a → H1[q]? = H[q]?) (h4 : ∀ q ∈ L, q.base = a) : w_W G (m_setI M a j v) r s H1 (locs ++ L) := by
  refine hw.change (by omega) h2 h3 h4 rfl rfl (fun b hb => w_setI_ce hb) (fun e he => ?_)
  rw [w_ce_o (M := m_setI M a j v) hci hk] at he
  cases he
  rw [w_setI_fs, ← w_fs_setI hr]
  exact h1
theorem W_putR {index ci j a : Nat} {v : Option Nat} {L : List Loc} {H1 : Heap} (hw : w_W G M r s H locs) (hci : ci < 12) (hk : (m_kd M a).1 = 10 + ci) (hr : w_rk ci j = true) (h1 : va_at (g_D G) vwCl (a, .inr (ci, (w_fs (m_iv M a) (m_rv M a) ci).set j (va_rf v))) H1) (h2 : H1.size = H.size) (h3 : ∀ q : Nat, q ≠ a → H1[q]? = H[q]?) (h4 : ∀ q ∈ L, q.base = a) : w_W G (m_setR M a j v) r s H1 (locs ++ L) := by
  refine hw.change (by omega) h2 h3 h4 rfl rfl (fun b hb => w_setR_ce hb) (fun e he => ?_)
  rw [w_ce_o (M := m_setR M a j v) hci hk] at he
  cases he
  rw [w_setR_fs, ← w_fs_setR hr]
  exact h1
theorem gx_putI {index ci j a : Nat} {v : Int32} {k : Mem → Option β} (E : wE G p l s m args meth c cc own nL) (hw : w_W G M r s H locs) (F : FldOK own index ci j) (hT : FldTy ci j .int false) (hr : w_rk ci j = false) (hdg : decode cc pc = .ok (.putfield index, 3))
    (kk : ∀ M1 H1 locs1, pI M ci a j v = some M1 → w_W G M1 r s H1 locs1 → W p l e R s m args below meth c H1 locs1 cells slots (PQ G below args s mc ms cv (k M1)) (F0 m (pc + 3) ls rest)) : W p l e R s m args below meth c H locs cells slots (PQ G below args s mc ms cv ((pI M ci a j v).bind k)) (F0 m pc ls (.int v :: .ref a :: rest)) := by
  refine W_bind fun M1 hv => ?_
  by_cases hk : (m_kd M a).1 = 10 + ci
  · have hv' : m_setI M a j v = M1 := by simpa [pI, hk] using hv
    have hci : ci < 12 := by obtain ⟨_, _, _, _, _, h, -⟩ := F; exact h
    refine fld_put E (w_at1 hw.1 hci hk) F w_fs_len hT rfl rfl hdg fun H1 L h1 h2 h3 h4 => ?_
    refine kk M1 H1 _ hv ?_
    rw [← hv']
    exact W_putI (index := index) hw hci hk hr h1 h2 h3 h4
  · simp [pI, hk] at hv
theorem gx_putZ {index ci j a : Nat} {v : Int32} {k : Mem → Option β} (E : wE G p l s m args meth c cc own nL) (hw : w_W G M r s H locs) (F : FldOK own index ci j) (hT : FldTy ci j .boolean false) (hr : w_rk ci j = false) (hdg : decode cc pc = .ok (.putfield index, 3))
    (kk : ∀ M1 H1 locs1, pZ M ci a j v = some M1 → w_W G M1 r s H1 locs1 → W p l e R s m args below meth c H1 locs1 cells slots (PQ G below args s mc ms cv (k M1)) (F0 m (pc + 3) ls rest)) : W p l e R s m args below meth c H locs cells slots (PQ G below args s mc ms cv ((pZ M ci a j v).bind k)) (F0 m pc ls (.int v :: .ref a :: rest)) := by
  refine W_bind fun M1 hv => ?_
  by_cases hk : (m_kd M a).1 = 10 + ci ∧ (v = 0 ∨ v = 1)
  · have hv' : m_setI M a j v = M1 := by simpa [pZ, hk] using hv
    have hci : ci < 12 := by obtain ⟨_, _, _, _, _, h, -⟩ := F; exact h
    refine fld_put E (w_at1 hw.1 hci hk.1) F w_fs_len hT (by rcases hk.2 with rfl | rfl <;> rfl) (by rcases hk.2 with rfl | rfl <;> rfl) hdg fun H1 L h1 h2 h3 h4 => ?_
    refine kk M1 H1 _ hv ?_
    rw [← hv']
    exact W_putI (index := index) hw hci hk.1 hr h1 h2 h3 h4
  · simp [pZ, hk] at hv
theorem gx_putR {index ci j a v : Nat} {ty : FieldType} {k : Mem → Option β} (E : wE G p l s m args meth c cc own nL) (hw : w_W G M r s H locs) (F : FldOK own index ci j) (hT : FldTy ci j ty false) (hn : narrow ty (.ref v) = .ref v) (hfit : fits ty (.ref v) = true) (hr : w_rk ci j = true) (hdg : decode cc pc = .ok (.putfield index, 3))
    (kk : ∀ M1 H1 locs1, pR M ci a j v = some M1 → w_W G M1 r s H1 locs1 → W p l e R s m args below meth c H1 locs1 cells slots (PQ G below args s mc ms cv (k M1)) (F0 m (pc + 3) ls rest)) : W p l e R s m args below meth c H locs cells slots (PQ G below args s mc ms cv ((pR M ci a j v).bind k)) (F0 m pc ls (.ref v :: .ref a :: rest)) := by
  refine W_bind fun M1 hv => ?_
  by_cases hk : (m_kd M a).1 = 10 + ci
  · have hv' : m_setR M a j (some v) = M1 := by simpa [pR, hk] using hv
    have hci : ci < 12 := by obtain ⟨_, _, _, _, _, h, -⟩ := F; exact h
    refine fld_put E (w_at1 hw.1 hci hk) F w_fs_len hT hn hfit hdg fun H1 L h1 h2 h3 h4 => ?_
    refine kk M1 H1 _ hv ?_
    rw [← hv']
    exact W_putR (index := index) hw hci hk hr h1 h2 h3 h4
  · simp [pR, hk] at hv
theorem gx_putFR {index ci j a v : Nat} {ty : FieldType} {k : Mem → Option β} (E : wE G p l s m args meth c cc own nL) (hw : w_W G M r s H locs) (F : FldOK own index ci j) (hT : FldTy ci j ty true) (hin2 : meth.name = "<init>") (hdecl : ∃ (C : String) (T : u_T) (N : Nat), vwCl[ci]? = some (C, T, N) ∧ (T j).1 = own) (hn : narrow ty (.ref v) = .ref v) (hfit : fits ty (.ref v) = true) (hr : w_rk ci j = true) (hdg : decode cc pc = .ok (.putfield index, 3))
    (kk : ∀ M1 H1 locs1, pR M ci a j v = some M1 → w_W G M1 r s H1 locs1 → W p l e R s m args below meth c H1 locs1 cells slots (PQ G below args s mc ms cv (k M1)) (F0 m (pc + 3) ls rest)) : W p l e R s m args below meth c H locs cells slots (PQ G below args s mc ms cv ((pR M ci a j v).bind k)) (F0 m pc ls (.ref v :: .ref a :: rest)) := by
  refine W_bind fun M1 hv => ?_
  by_cases hk : (m_kd M a).1 = 10 + ci
  · have hv' : m_setR M a j (some v) = M1 := by simpa [pR, hk] using hv
    have hci : ci < 12 := by obtain ⟨_, _, _, _, _, h, -⟩ := F; exact h
    refine fld_putF E (w_at1 hw.1 hci hk) F w_fs_len hT hin2 hdecl hn hfit hdg fun H1 L h1 h2 h3 h4 => ?_
    refine kk M1 H1 _ hv ?_
    rw [← hv']
    exact W_putR (index := index) hw hci hk hr h1 h2 h3 h4
  · simp [pR, hk] at hv
theorem gx_putFI {index ci j a : Nat} {v : Int32} {k : Mem → Option β} (E : wE G p l s m args meth c cc own nL) (hw : w_W G M r s H locs) (F : FldOK own index ci j) (hT : FldTy ci j .int true) (hin2 : meth.name = "<init>") (hdecl : ∃ (C : String) (T : u_T) (N : Nat), vwCl[ci]? = some (C, T, N) ∧ (T j).1 = own) (hr : w_rk ci j = false) (hdg : decode cc pc = .ok (.putfield index, 3))
    (kk : ∀ M1 H1 locs1, pI M ci a j v = some M1 → w_W G M1 r s H1 locs1 → W p l e R s m args below meth c H1 locs1 cells slots (PQ G below args s mc ms cv (k M1)) (F0 m (pc + 3) ls rest)) : W p l e R s m args below meth c H locs cells slots (PQ G below args s mc ms cv ((pI M ci a j v).bind k)) (F0 m pc ls (.int v :: .ref a :: rest)) := by
  refine W_bind fun M1 hv => ?_
  by_cases hk : (m_kd M a).1 = 10 + ci
  · have hv' : m_setI M a j v = M1 := by simpa [pI, hk] using hv
    have hci : ci < 12 := by obtain ⟨_, _, _, _, _, h, -⟩ := F; exact h
    refine fld_putF E (w_at1 hw.1 hci hk) F w_fs_len hT hin2 hdecl rfl rfl hdg fun H1 L h1 h2 h3 h4 => ?_
    refine kk M1 H1 _ hv ?_
    rw [← hv']
    exact W_putI (index := index) hw hci hk hr h1 h2 h3 h4
  · simp [pI, hk] at hv
theorem gx_putN {index ci j a : Nat} {v : Option Nat} {ty : FieldType} {k : Mem → Option β} (E : wE G p l s m args meth c cc own nL) (hw : w_W G M r s H locs) (F : FldOK own index ci j) (hT : FldTy ci j ty false) (hn : narrow ty (va_rf v) = va_rf v) (hfit : fits ty (va_rf v) = true) (hr : w_rk ci j = true) (hdg : decode cc pc = .ok (.putfield index, 3))
    (kk : ∀ M1 H1 locs1, pN M ci a j v = some M1 → w_W G M1 r s H1 locs1 → W p l e R s m args below meth c H1 locs1 cells slots (PQ G below args s mc ms cv (k M1)) (F0 m (pc + 3) ls rest)) : W p l e R s m args below meth c H locs cells slots (PQ G below args s mc ms cv ((pN M ci a j v).bind k)) (F0 m pc ls (va_rf v :: .ref a :: rest)) := by
  refine W_bind fun M1 hv => ?_
  by_cases hk : (m_kd M a).1 = 10 + ci
  · have hv' : m_setR M a j v = M1 := by simpa [pN, hk] using hv
    have hci : ci < 12 := by obtain ⟨_, _, _, _, _, h, -⟩ := F; exact h
    refine fld_put E (w_at1 hw.1 hci hk) F w_fs_len hT hn hfit hdg fun H1 L h1 h2 h3 h4 => ?_
    refine kk M1 H1 _ hv ?_
    rw [← hv']
    exact W_putR (index := index) hw hci hk hr h1 h2 h3 h4
  · simp [pN, hk] at hv
end Rw
