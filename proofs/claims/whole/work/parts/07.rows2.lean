section Rx
variable {p : Program} {l : Launch} {e : Env} {R : Room} {s : State} {m : MethodId} {args : Array Value} {below : List Frame} {meth : Method} {c : Code} {H : Heap} {locs : List Loc} {cells slots : Nat} {Q : State → Prop}
variable {cc : ByteArray} {pc : Nat} {ls : Array Slot} {rest : List Value} {G : wG} {own : String} {nL mc ms : Nat} {M : Mem} {r : Rho} {β : Type} {cv : β → Out}
/-! rows -/
def inR (i : Int32) (n : Nat) : Bool := decide (¬ (i < 0 ∨ n ≤ i.toNatClampNeg))
theorem inR_in {i : Int32} {n : Nat} (h : inR i n = true) : vp_in i n := (of_decide_eq_true h : ¬ (i < 0 ∨ n ≤ i.toNatClampNeg))
def ald (M : Mem) (a : Nat) (i : Int32) : Option Int32 := if (m_kd M a).1 = 1 ∧ inR i (m_kd M a).2 = true then some (m_iv M a i.toNatClampNeg) else none
def ast (M : Mem) (a : Nat) (i v : Int32) : Option Mem := if (m_kd M a).1 = 1 ∧ inR i (m_kd M a).2 = true then some (m_setI M a i.toNatClampNeg v) else none
/-- rows of Person (2), of Town (3) -/
def ard (M : Mem) (kk a : Nat) (i : Int32) : Option Nat := if (m_kd M a).1 = kk ∧ inR i (m_kd M a).2 = true then m_rv M a i.toNatClampNeg else none
def ars (M : Mem) (kk a : Nat) (i : Int32) (v : Nat) : Option Mem := if (m_kd M a).1 = kk ∧ inR i (m_kd M a).2 = true ∧ (m_kd M v).1 = (if kk = 2 then 15 else 17) then some (m_setR M a i.toNatClampNeg (some v)) else none
def lld (M : Mem) (a : Nat) (i : Int32) : Option Int64 := if (m_kd M a).1 = 4 ∧ inR i (m_kd M a).2 = true then some (m_lv M a i.toNatClampNeg) else none
def lst (M : Mem) (a : Nat) (i : Int32) (v : Int64) : Option Mem := if (m_kd M a).1 = 4 ∧ inR i (m_kd M a).2 = true then some (m_setL M a i.toNatClampNeg v) else none
/-- a row of ints' length -/
def aln (M : Mem) (a : Nat) : Option Int32 := if (m_kd M a).1 = 1 then some (Int32.ofNat (m_kd M a).2) else none
theorem w_ati {a : Nat} (hw : w_H G M r H) (hk : (m_kd M a).1 = 1) : H[a]? = some (vp_cell (g_I G) ((m_kd M a).2, .inl (m_iv M a))) := hw.2.2.1 a _ (w_ce_i hk)
theorem w_atp {a : Nat} (hw : w_H G M r H) (hk : (m_kd M a).1 = 2) : H[a]? = some (vp_cell (g_P G) ((m_kd M a).2, .inr (.inr (.inr (.inr (m_rv M a)))))) := hw.2.2.1 a _ (w_ce_p hk)
theorem w_att {a : Nat} (hw : w_H G M r H) (hk : (m_kd M a).1 = 3) : H[a]? = some (vp_cell (g_T G) ((m_kd M a).2, .inr (.inr (.inr (.inr (m_rv M a)))))) := hw.2.2.1 a _ (w_ce_t hk)
theorem w_atj {a : Nat} (hw : w_H G M r H) (hk : (m_kd M a).1 = 4) : H[a]? = some (vp_cell (g_J G) ((m_kd M a).2, .inr (.inl (m_lv M a)))) := hw.2.2.1 a _ (w_ce_j hk)
theorem w_1 {a : Nat} {x : va_E} (h : va_at (g_D G) vwCl (a, x) H) : va_P (g_D G) vwCl [(a, x)] H := by
  intro k q hq
  have hz : k < 1 := (List.getElem?_eq_some_iff.mp hq).1
  rw [show k = 0 by omega] at hq
  cases hq
  exact h
theorem gx_iald {a : Nat} {i : Int32} {k : Int32 → Option β} (E : wE G p l s m args meth c cc own nL) (hw : w_W G M r s H locs) (hdg : decode cc pc = .ok (.iaload, 1))
    (kk : ∀ v, ald M a i = some v → W p l e R s m args below meth c H locs cells slots (PQ G below args s mc ms cv (k v)) (F0 m (pc + 1) ls (.int v :: rest))) : W p l e R s m args below meth c H locs cells slots (PQ G below args s mc ms cv ((ald M a i).bind k)) (F0 m pc ls (.int i :: .ref a :: rest)) := by
  refine W_bind fun v hv => ?_
  by_cases hk : (m_kd M a).1 = 1 ∧ inR i (m_kd M a).2 = true
  · have hv' : m_iv M a i.toNatClampNeg = v := by simpa [ald, hk] using hv
    obtain ⟨hx, hb, -, -, -, hT, -⟩ := E
    have := va_iald (D := g_D G) (cl := vwCl) (l := l) (e := e) (R := R) (m := m) (args := args) (below := below) (meth := meth) (locs := locs) (cells := cells) (slots := slots) (Q := PQ G below args s mc ms cv (k v)) (ls := ls) (rest := rest) hx hb hT.1 (w_1 (hw.1.2.2.1 a _ (w_ce_i hk.1))) 0 0 rfl rfl (inR_in hk.2) hdg
    rw [hv'] at this
    exact this (kk v hv)
  · simp [ald, hk] at hv
theorem gx_alen {a : Nat} {k : Int32 → Option β} (E : wE G p l s m args meth c cc own nL) (hw : w_W G M r s H locs) (hdg : decode cc pc = .ok (.arraylength, 1))
    (kk : ∀ v, aln M a = some v → W p l e R s m args below meth c H locs cells slots (PQ G below args s mc ms cv (k v)) (F0 m (pc + 1) ls (.int v :: rest))) : W p l e R s m args below meth c H locs cells slots (PQ G below args s mc ms cv ((aln M a).bind k)) (F0 m pc ls (.ref a :: rest)) := by
  refine W_bind fun v hv => ?_
  by_cases hk : (m_kd M a).1 = 1
  · have hv' : Int32.ofNat (m_kd M a).2 = v := by simpa [aln, hk] using hv
    obtain ⟨hx, hb, -, -, -, hT, -⟩ := E
    exact va_alen (D := g_D G) (cl := vwCl) hx hb hT.1 (w_1 (hw.1.2.2.1 a _ (w_ce_i hk))) 0 0 rfl rfl hv' hdg (kk v hv)
  · simp [aln, hk] at hv
theorem gx_aald {kd a : Nat} {i : Int32} {k : Nat → Option β} (E : wE G p l s m args meth c cc own nL) (hw : w_W G M r s H locs) (h23 : kd = 2 ∨ kd = 3) (hdg : decode cc pc = .ok (.aaload, 1))
    (kk : ∀ v, ard M kd a i = some v → W p l e R s m args below meth c H locs cells slots (PQ G below args s mc ms cv (k v)) (F0 m (pc + 1) ls (.ref v :: rest))) : W p l e R s m args below meth c H locs cells slots (PQ G below args s mc ms cv ((ard M kd a i).bind k)) (F0 m pc ls (.int i :: .ref a :: rest)) := by
  refine W_bind fun v hv => ?_
  by_cases hk : (m_kd M a).1 = kd ∧ inR i (m_kd M a).2 = true
  · have hv' : m_rv M a i.toNatClampNeg = some v := by simpa [ard, hk] using hv
    obtain ⟨hx, hb, -, -, -, hT, -⟩ := E
    rcases h23 with rfl | rfl
    · have := va_aldq (D := g_D G) (cl := vwCl) (l := l) (e := e) (R := R) (m := m) (args := args) (below := below) (meth := meth) (locs := locs) (cells := cells) (slots := slots) (Q := PQ G below args s mc ms cv (k v)) (ls := ls) (rest := rest) hx hb hT.1 (w_1 (hw.1.2.2.1 a _ (w_ce_p hk.1))) 0 1 rfl rfl (inR_in hk.2) hdg
      rw [hv'] at this
      exact this (kk v hv)
    · have := va_aldq (D := g_D G) (cl := vwCl) (l := l) (e := e) (R := R) (m := m) (args := args) (below := below) (meth := meth) (locs := locs) (cells := cells) (slots := slots) (Q := PQ G below args s mc ms cv (k v)) (ls := ls) (rest := rest) hx hb hT.1 (w_1 (hw.1.2.2.1 a _ (w_ce_t hk.1))) 0 2 rfl rfl (inR_in hk.2) hdg
      rw [hv'] at this
      exact this (kk v hv)
  · simp [ard, hk] at hv
theorem gx_lald {a : Nat} {i : Int32} {k : Int64 → Option β} (E : wE G p l s m args meth c cc own nL) (hw : w_W G M r s H locs) (hdg : decode cc pc = .ok (.laload, 1))
    (kk : ∀ v, lld M a i = some v → W p l e R s m args below meth c H locs cells slots (PQ G below args s mc ms cv (k v)) (F0 m (pc + 1) ls (.long v :: rest))) : W p l e R s m args below meth c H locs cells slots (PQ G below args s mc ms cv ((lld M a i).bind k)) (F0 m pc ls (.int i :: .ref a :: rest)) := by
  refine W_bind fun v hv => ?_
  by_cases hk : (m_kd M a).1 = 4 ∧ inR i (m_kd M a).2 = true
  · have hv' : m_lv M a i.toNatClampNeg = v := by simpa [lld, hk] using hv
    obtain ⟨hx, hb, -, -, -, hT, -⟩ := E
    have := va_lald (D := g_D G) (cl := vwCl) (l := l) (e := e) (R := R) (m := m) (args := args) (below := below) (meth := meth) (locs := locs) (cells := cells) (slots := slots) (Q := PQ G below args s mc ms cv (k v)) (ls := ls) (rest := rest) hx hb hT.1 (w_1 (hw.1.2.2.1 a _ (w_ce_j hk.1))) 0 3 rfl rfl (inR_in hk.2) hdg
    rw [hv'] at this
    exact this (kk v hv)
  · simp [lld, hk] at hv
theorem gx_iast {a : Nat} {i v : Int32} {k : Mem → Option β} (E : wE G p l s m args meth c cc own nL) (hw : w_W G M r s H locs) (hdg : decode cc pc = .ok (.iastore, 1))
    (kk : ∀ M1 H1 locs1, ast M a i v = some M1 → w_W G M1 r s H1 locs1 → W p l e R s m args below meth c H1 locs1 cells slots (PQ G below args s mc ms cv (k M1)) (F0 m (pc + 1) ls rest)) : W p l e R s m args below meth c H locs cells slots (PQ G below args s mc ms cv ((ast M a i v).bind k)) (F0 m pc ls (.int v :: .int i :: .ref a :: rest)) := by
  refine W_bind fun M1 hv => ?_
  by_cases hk : (m_kd M a).1 = 1 ∧ inR i (m_kd M a).2 = true
  · have hv' : m_setI M a i.toNatClampNeg v = M1 := by simpa [ast, hk] using hv
    obtain ⟨hx, hb, -, -, -, hT, -⟩ := E
    have hin := inR_in hk.2
    refine W.iast hx hb (w_ati hw.1 hk.1) ((hT.1.2 0 _ rfl).1 _ (fun j => .int (m_iv M a j))) (fun q => by cases q) (by show ¬ (i < 0 ∨ (arrV _ _ _).slots.size ≤ _); rw [arrV_size]; exact hin) rfl rfl hdg fun H1 e1 e2 e3 => ?_
    refine kk M1 H1 _ hv ?_
    rw [← hv']
    refine hw.change (by omega) e2 e3 (by simp) rfl rfl (fun b hb => w_setI_ce hb) (fun e9 he => ?_)
    rw [w_ce_i (M := m_setI M a i.toNatClampNeg v) hk.1] at he
    cases he
    show H1[a]? = some (vp_cell _ _)
    rw [e1, vp_cell_i, vp_cell_i, arrV_store]
    congr 2
    funext q
    show _ = Value.int (up2 (m_iv M) a i.toNatClampNeg v a q)
    by_cases hq : q = i.toNatClampNeg
    · subst hq; simp [updV, up2]
    · simp [updV, up2, hq]
  · simp [ast, hk] at hv
theorem gx_last {a : Nat} {i : Int32} {v : Int64} {k : Mem → Option β} (E : wE G p l s m args meth c cc own nL) (hw : w_W G M r s H locs) (hdg : decode cc pc = .ok (.lastore, 1))
    (kk : ∀ M1 H1 locs1, lst M a i v = some M1 → w_W G M1 r s H1 locs1 → W p l e R s m args below meth c H1 locs1 cells slots (PQ G below args s mc ms cv (k M1)) (F0 m (pc + 1) ls rest)) : W p l e R s m args below meth c H locs cells slots (PQ G below args s mc ms cv ((lst M a i v).bind k)) (F0 m pc ls (.long v :: .int i :: .ref a :: rest)) := by
  refine W_bind fun M1 hv => ?_
  by_cases hk : (m_kd M a).1 = 4 ∧ inR i (m_kd M a).2 = true
  · have hv' : m_setL M a i.toNatClampNeg v = M1 := by simpa [lst, hk] using hv
    obtain ⟨hx, hb, -, -, -, hT, -⟩ := E
    have hin := inR_in hk.2
    refine W.last hx hb (w_atj hw.1 hk.1) ((hT.1.2 3 _ rfl).1 _ (fun j => .long (m_lv M a j))) (fun q => by cases q) (by show ¬ (i < 0 ∨ (arrV _ _ _).slots.size ≤ _); rw [arrV_size]; exact hin) rfl rfl hdg fun H1 e1 e2 e3 => ?_
    refine kk M1 H1 _ hv ?_
    rw [← hv']
    refine hw.change (by omega) e2 e3 (by simp) rfl rfl (fun b hb => w_setL_ce hb) (fun e9 he => ?_)
    rw [w_ce_j (M := m_setL M a i.toNatClampNeg v) hk.1] at he
    cases he
    show H1[a]? = some (vp_cell _ _)
    rw [e1, vp_cell_l, vp_cell_l, arrV_store]
    congr 2
    funext q
    show _ = Value.long (up2 (m_lv M) a i.toNatClampNeg v a q)
    by_cases hq : q = i.toNatClampNeg
    · subst hq; simp [updV, up2]
    · simp [updV, up2, hq]
  · simp [lst, hk] at hv
theorem gx_aast {kd a : Nat} {i : Int32} {v : Nat} {k : Mem → Option β} (E : wE G p l s m args meth c cc own nL) (hw : w_W G M r s H locs) (h23 : kd = 2 ∨ kd = 3) (hdg : decode cc pc = .ok (.aastore, 1))
    (kk : ∀ M1 H1 locs1, ars M kd a i v = some M1 → w_W G M1 r s H1 locs1 → W p l e R s m args below meth c H1 locs1 cells slots (PQ G below args s mc ms cv (k M1)) (F0 m (pc + 1) ls rest)) : W p l e R s m args below meth c H locs cells slots (PQ G below args s mc ms cv ((ars M kd a i v).bind k)) (F0 m pc ls (.ref v :: .int i :: .ref a :: rest)) := by
  refine W_bind fun M1 hv => ?_
  by_cases hk : (m_kd M a).1 = kd ∧ inR i (m_kd M a).2 = true ∧ (m_kd M v).1 = (if kd = 2 then 15 else 17)
  · have hv' : m_setR M a i.toNatClampNeg (some v) = M1 := by simpa [ars, hk] using hv
    obtain ⟨hx, hb, -, -, -, hT, -⟩ := E
    have hin := inR_in hk.2.1
    have hlt : i.toNatClampNeg < (m_kd M a).2 := Nat.not_le.mp fun q => hin (Or.inr q)
    have h0 : ¬ i < 0 := fun q => hin (Or.inl q)
    have key : ∀ (cA : ClassId) (C : String) (t0 ci : Nat), ci < 12 → (∀ N : Mem, (m_kd N a).1 = kd → w_ce G N a = some (.inl (cA, (m_kd N a).2, .inr (.inr (.inr (.inr (m_rv N a))))))) → ([(g_I G, FieldType.int), (g_P G, .object "CheekTown$Person"), (g_T G, .object "CheekTown$Town"), (g_J G, .long)])[t0]? = some (cA, .object C) → (∃ T N, vwCl[ci]? = some (C, T, N)) → (m_kd M v).1 = 10 + ci → W p l e R s m args below meth c H locs cells slots (PQ G below args s mc ms cv (k M1)) (F0 m pc ls (.ref v :: .int i :: .ref a :: rest)) := by
      intro cA C t0 ci hci hce ht hcl hkv
      obtain ⟨T, N, hcl⟩ := hcl
      obtain ⟨r', hr', cellV, g1, g2, g3, -⟩ := w_at1 hw.1 hci hkv
      have hcls := (hT.1.1 ci _ hcl).2
      obtain ⟨kA, comp, k1, k2, k3, -⟩ := (hT.1.2 t0 _ ht).2
      have hcomp : comp = (g_D G).1 ci := Option.some.inj (k3.symm.trans hcls.1)
      subst hcomp
      obtain ⟨kC, hkC, -⟩ := hcls.2
      have hat : H[a]? = some (vp_cell cA ((m_kd M a).2, .inr (.inr (.inr (.inr (m_rv M a)))))) := hw.1.2.2.1 a _ (hce M hk.1)
      refine W.aast hx hb hat (fun q h => by cases h) (fun h => by cases h) k1 k2 rfl hkC ⟨h0, by show _ < (arrV _ _ _).slots.size; rw [arrV_size]; exact hlt⟩ g1 (fun q h => by rw [g3] at h; cases h) (by rw [g2]; exact hkC) (by rw [g2]; exact va_assign hcls) rfl rfl hdg fun H1 e1 e2 e3 => ?_
      refine kk M1 H1 _ hv ?_
      rw [← hv']
      refine hw.change (by rcases h23 with rfl | rfl <;> omega) e2 e3 (by simp) rfl rfl (fun b hb => w_setR_ce hb) (fun e9 he => ?_)
      rw [hce (m_setR M a i.toNatClampNeg (some v)) hk.1] at he
      cases he
      show H1[a]? = some (vp_cell _ _)
      rw [e1, vp_cell_q, vp_cell_q, arrV_store]
      congr 2
      funext q
      show _ = va_rf (up2 (m_rv M) a i.toNatClampNeg (some v) a q)
      by_cases hq : q = i.toNatClampNeg
      · subst hq; simp [updV, up2, va_rf]
      · simp [updV, up2, hq]
    rcases h23 with rfl | rfl
    · exact key (g_P G) "CheekTown$Person" 1 5 (by omega) (fun N hN => w_ce_p hN) rfl ⟨_, _, rfl⟩ (by simpa using hk.2.2)
    · exact key (g_T G) "CheekTown$Town" 2 7 (by omega) (fun N hN => w_ce_t hN) rfl ⟨_, _, rfl⟩ (by simpa using hk.2.2)
  · simp [ars, hk] at hv
/-! a range copied -/
def acp (M : Mem) (a : Nat) (sp : Int32) (b : Nat) (dp n : Int32) : Option Mem :=
  if (m_kd M a).1 = 1 ∧ (m_kd M b).1 = 1 ∧ ¬ sp < 0 ∧ ¬ dp < 0 ∧ ¬ n < 0 ∧ sp.toNatClampNeg + n.toNatClampNeg ≤ (m_kd M a).2 ∧ dp.toNatClampNeg + n.toNatClampNeg ≤ (m_kd M b).2 then some (m_cpy M a sp.toNatClampNeg b dp.toNatClampNeg n.toNatClampNeg) else none
theorem m_cpy_ce {a sp b dp n x : Nat} (h : x ≠ b) : w_ce G (m_cpy M a sp b dp n) x = w_ce G M x := by
  refine w_ce_eq rfl ?_ rfl rfl
  show (if x = b then _ else m_iv M x) = _
  rw [if_neg h]
end Rx
