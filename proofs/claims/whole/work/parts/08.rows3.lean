section Ry
variable {p : Program} {l : Launch} {e : Env} {R : Room} {s : State} {m : MethodId} {args : Array Value} {below : List Frame} {meth : Method} {c : Code} {H : Heap} {locs : List Loc} {cells slots : Nat} {Q : State → Prop}
variable {cc : ByteArray} {pc : Nat} {ls : Array Slot} {rest : List Value} {G : wG} {own : String} {nL mc ms : Nat} {M : Mem} {r : Rho} {β : Type} {cv : β → Out}
theorem gx_copy {a b index : Nat} {sp dp n : Int32} {k : Mem → Option β} (E : wE G p l s m args meth c cc own nL) (hw : w_W G M r s H locs) (hsz : nL = ls.size) (hlink : Cond.methodLink own index arraycopyName ∈ wTB) (hnat : Cond.native arraycopyName ∈ wTB) (hstat : Cond.static arraycopyName ∈ wTB) (hini : Cond.initialized "java/lang/System" ∈ wTB)
    (hframes : 1 ≤ R.frames) (hlocals : (rest.map fun v => v.category).sum + (nativeFrameWords "java/lang/System" "arraycopy" 5 + 11) ≤ R.locals) (hdg : decode cc pc = .ok (.invokestatic index, 3))
    (kk : ∀ M1 H1 locs1, acp M a sp b dp n = some M1 → w_W G M1 r s H1 locs1 → W p l e R s m args below meth c H1 locs1 cells slots (PQ G below args s mc ms cv (k M1)) (F0 m (pc + 3) ls rest)) : W p l e R s m args below meth c H locs cells slots (PQ G below args s mc ms cv ((acp M a sp b dp n).bind k)) (F0 m pc ls (.int n :: .int dp :: .ref b :: .int sp :: .ref a :: rest)) := by
  refine W_bind fun M1 hv => ?_
  have hk : (m_kd M a).1 = 1 ∧ (m_kd M b).1 = 1 ∧ ¬ sp < 0 ∧ ¬ dp < 0 ∧ ¬ n < 0 ∧ sp.toNatClampNeg + n.toNatClampNeg ≤ (m_kd M a).2 ∧ dp.toNatClampNeg + n.toNatClampNeg ≤ (m_kd M b).2 := by
    by_cases hk : (m_kd M a).1 = 1 ∧ (m_kd M b).1 = 1 ∧ ¬ sp < 0 ∧ ¬ dp < 0 ∧ ¬ n < 0 ∧ sp.toNatClampNeg + n.toNatClampNeg ≤ (m_kd M a).2 ∧ dp.toNatClampNeg + n.toNatClampNeg ≤ (m_kd M b).2
    · exact hk
    · simp only [acp, if_neg hk] at hv; cases hv
  have hv' : m_cpy M a sp.toNatClampNeg b dp.toNatClampNeg n.toNatClampNeg = M1 := by
    simp only [acp, if_pos hk] at hv; exact Option.some.inj hv
  obtain ⟨ka, kb, h1, h2, h3, h4, h5⟩ := hk
  obtain ⟨hx, hb, hts, hown, hml, hTT, -⟩ := E
  have nn : ∀ z : Int32, ¬ z < 0 → z.toInt = (z.toNatClampNeg : Int) := by
    intro z hz
    have hz0 : (0 : Int) ≤ z.toInt := by
      have := Int32.not_lt.mp hz
      simpa using Int32.le_iff_toInt_le.mp this
    show z.toInt = ((z.toInt.toNat : Nat) : Int)
    omega
  intro T hT X
  have hc0 : H[a]? = some (vp_cell (g_I G) ((m_kd M a).2, .inl (m_iv M a))) := w_ati hw.1 ka
  have hc1 : H[b]? = some (vp_cell (g_I G) ((m_kd M b).2, .inl (m_iv M b))) := w_ati hw.1 kb
  obtain ⟨-, k0, hk0, cm0, hkk0⟩ := (hTT.1.2 0 _ rfl).1 (m_kd M a).2 (fun j => .int (m_iv M a j))
  obtain ⟨-, k1, hk1, cm1, hkk1⟩ := (hTT.1.2 0 _ rfl).1 (m_kd M b).2 (fun j => .int (m_iv M b j))
  obtain ⟨vm', X', step⟩ := X.arraycopy hx hown (hts _ hlink) (hts _ hnat) (hts _ hstat) (hts _ hini) (src := a) (dst := b) (cs := vp_cell (g_I G) ((m_kd M a).2, .inl (m_iv M a))) (cd := vp_cell (g_I G) ((m_kd M b).2, .inl (m_iv M b))) (srcPos := sp) (destPos := dp) (n := n) (by rw [hT]; exact hc0) (by rw [hT]; exact hc1)
    (fun _ h => by cases h) (fun _ h => by cases h) (fun h => by cases h) (fun h => by cases h) hk0 hk1 hkk0 hkk1 (by simp [refKind]) h1 h2 h3
    (by rw [nn sp h1, nn n h3]; show ¬ _ > ((arrV (g_I G) (m_kd M a).2 (fun j => .int (m_iv M a j))).slots.size : Int); rw [arrV_size]; omega)
    (by rw [nn dp h2, nn n h3]; show ¬ _ > ((arrV (g_I G) (m_kd M b).2 (fun j => .int (m_iv M b j))).slots.size : Int); rw [arrV_size]; omega)
    (fun vm₁ _ i hi => by
      have e : (vp_cell (g_I G) ((m_kd M a).2, .inl (m_iv M a))).slots.getD (sp.toNatClampNeg + i) .null = .int (m_iv M a (sp.toNatClampNeg + i)) := by
        show (arrV (g_I G) (m_kd M a).2 (fun j => .int (m_iv M a j))).slots.getD _ _ = _
        rw [Array.getD_eq_getD_getElem?, arrV_read _ _ (by omega)]
        rfl
      refine ⟨?_, ?_⟩
      · rw [e]; rfl
      · rw [e]; exact trivial)
    (g := F0 m pc ls (.int n :: .int dp :: .ref b :: .int sp :: .ref a :: rest)) rfl (by rw [hml, hsz]) (rest := rest) rfl (by rw [hb]; exact hdg) hframes (by show 2 * 0 + _ + _ ≤ _; omega)
  have e1 : copied (vp_cell (g_I G) ((m_kd M a).2, .inl (m_iv M a))) (vp_cell (g_I G) ((m_kd M b).2, .inl (m_iv M b))) sp dp n = vp_cell (g_I G) ((m_kd M b).2, .inl (va_cpy (m_iv M a) (m_iv M b) sp.toNatClampNeg dp.toNatClampNeg n.toNatClampNeg)) := va_copied (fun z => .int z) (g_I G) (g_I G) (m_iv M a) (m_iv M b) h4
  rw [e1] at X' step
  have hl : b < H.size := (Array.getElem?_eq_some_iff.mp hc1).1
  generalize hcell : vp_cell (g_I G) ((m_kd M b).2, .inl (va_cpy (m_iv M a) (m_iv M b) sp.toNatClampNeg dp.toNatClampNeg n.toNatClampNeg)) = nc at X' step
  have hheap : ((T.setVm vm').setCell b nc).heap = H.setIfInBounds b nc := by rw [← hT]; rfl
  have oq : ∀ q : Nat, q ≠ b → (H.setIfInBounds b nc)[q]? = H[q]? := fun q hq => by simp [Array.getElem?_setIfInBounds, Ne.symm hq]
  obtain ⟨t, a1, b1⟩ := kk M1 _ _ hv (by
    rw [← hv']
    refine hw.change (H1 := H.setIfInBounds b nc) (a := b) (by omega) (by simp) oq (fun q hq => ?_) rfl rfl (fun x hx => m_cpy_ce hx) (fun e9 he => ?_)
    · obtain ⟨z, -, hz⟩ := List.mem_map.mp hq
      rw [← hz]
    · rw [w_ce_i (M := m_cpy M a sp.toNatClampNeg b dp.toNatClampNeg n.toNatClampNeg) kb] at he
      cases he
      show (H.setIfInBounds b nc)[b]? = some (vp_cell _ _)
      rw [← hcell]
      have e3 : m_iv (m_cpy M a sp.toNatClampNeg b dp.toNatClampNeg n.toNatClampNeg) b = va_cpy (m_iv M a) (m_iv M b) sp.toNatClampNeg dp.toNatClampNeg n.toNatClampNeg := by
        show (if b = b then _ else _) = _
        rw [if_pos rfl]
      rw [e3]
      simp [Array.getElem?_setIfInBounds, hl]
      rfl) _ hheap X'
  exact ⟨t, step t a1, b1⟩
/-! new cells -/
theorem m_new_ce {k : Nat × Nat} {b : Nat} (h : b ≠ m_sz M) : w_ce G (m_new M k) b = w_ce G M b := by
  refine w_ce_eq ?_ ?_ ?_ ?_
  · show (if b = m_sz M then k else m_kd M b) = _; rw [if_neg h]
  · show (if b = m_sz M then _ else m_iv M b) = _; rw [if_neg h]
  · show (if b = m_sz M then _ else m_rv M b) = _; rw [if_neg h]
  · show (if b = m_sz M then _ else m_lv M b) = _; rw [if_neg h]
theorem m_new_kd {k : Nat × Nat} : m_kd (m_new M k) (m_sz M) = k := by show (if m_sz M = m_sz M then k else _) = _; rw [if_pos rfl]
theorem m_new_iv {k : Nat × Nat} : m_iv (m_new M k) (m_sz M) = fun _ => 0 := by show (if m_sz M = m_sz M then _ else _) = _; rw [if_pos rfl]
theorem m_new_rv {k : Nat × Nat} : m_rv (m_new M k) (m_sz M) = fun _ => none := by show (if m_sz M = m_sz M then _ else _) = _; rw [if_pos rfl]
theorem m_new_lv {k : Nat × Nat} : m_lv (m_new M k) (m_sz M) = fun _ => 0 := by show (if m_sz M = m_sz M then _ else _) = _; rw [if_pos rfl]
theorem w_H.new {k : Nat × Nat} {H1 : Heap} (hw : w_H G M r H) (hlo : g_lo G ≤ H.size) (hz : H1.size = H.size + 1) (ho : ∀ q : Nat, q < H.size → H1[q]? = H[q]?) (ha : ∀ e, w_ce G (m_new M k) (m_sz M) = some e → va_at (g_D G) vwCl (m_sz M, e) H1) : w_H G (m_new M k) r H1 := by
  obtain ⟨h1, h2, h3, h4⟩ := hw
  refine ⟨by rw [hz, h1]; rfl, fun b hb => ?_, fun b e hb => ?_, fun hon => ?_⟩
  · show _ ∧ b < m_sz M + 1
    by_cases hba : b = m_sz M
    · subst hba; exact ⟨by rw [← h1]; exact hlo, Nat.lt_succ_self _⟩
    · have : (m_kd M b).1 ≠ 0 := by
        have h5 : m_kd (m_new M k) b = m_kd M b := by show (if b = m_sz M then k else m_kd M b) = _; rw [if_neg hba]
        rw [h5] at hb; exact hb
      have := h2 b this
      exact ⟨this.1, by omega⟩
  · by_cases hba : b = m_sz M
    · subst hba; exact ha e hb
    · rw [m_new_ce hba] at hb
      have h5 := h3 b e hb
      exact h5.kept (ho b h5.lt)
  · obtain ⟨g1, g2, g3, g4, g5⟩ := h4 hon
    refine ⟨g1, by show _ ≤ m_sz M + 1; omega, fun i hi => ?_, g4.kept (ho _ g4.lt), fun j hj => (g5 j hj).kept (ho _ (g5 j hj).lt)⟩
    show (if g_r G + i = m_sz M then k else m_kd M (g_r G + i)).1 = 0
    rw [if_neg (by omega)]
    exact g3 i hi
theorem w_W.new {k : Nat × Nat} {H1 : Heap} (hw : w_W G M r s H locs) (hlo : g_lo G ≤ s.heap.size) (hz : H1.size = H.size + 1) (ho : ∀ q : Nat, q < H.size → H1[q]? = H[q]?) (ha : ∀ e, w_ce G (m_new M k) (m_sz M) = some e → va_at (g_D G) vwCl (m_sz M, e) H1) : w_W G (m_new M k) r s H1 locs :=
  ⟨hw.1.new (Nat.le_trans hlo hw.2.1) hz ho ha, Nat.le_trans hw.2.1 (by omega), fun q h1 h2 => (ho q (Nat.lt_of_lt_of_le h1 hw.2.1)).trans (hw.2.2.1 q h1 h2), hw.2.2.2⟩
/-- a class whose objects are made: link, what can be made, its kinds -/
def NewOK (own : String) (index ci : Nat) : Prop := ∃ (C : String) (T : u_T) (N : Nat) (ty : Nat → FieldType), ci < 12 ∧ vwCl[ci]? = some (C, T, N) ∧ N = w_nf ci ∧ (∀ w ∈ u_ws C T N, w ∈ wTB) ∧ (∀ k, k < N → parseFieldDescriptor (T k).2.2.1 = some (ty k)) ∧ (∀ j, j < N → defaultValue (ty j) = (if w_rk ci j then Value.null else .int 0)) ∧ Cond.classLink own index C ∈ wTB ∧ Cond.instantiable C N ∈ wTB ∧ Cond.initialized C ∈ wTB
theorem gx_new {index ci : Nat} (E : wE G p l s m args meth c cc own nL) (hw : w_W G M r s H locs) (F : NewOK own index ci) (hcells : cells + 1 ≤ R.cells) (hslots : slots + w_nf ci ≤ R.slots) (hdg : decode cc pc = .ok (.new index, 3))
    (kk : ∀ H1, w_W G (m_new M (10 + ci, 0)) r s H1 locs → W p l e R s m args below meth c H1 locs (cells + 1) (slots + w_nf ci) Q (F0 m (pc + 3) ls (.ref (m_sz M) :: rest))) : W p l e R s m args below meth c H locs cells slots Q (F0 m pc ls rest) := by
  obtain ⟨hx, hb, hts, hown, hml, hTT, -, hlo, -⟩ := E
  obtain ⟨C, T, N, ty, hci, hcl, hN, hin, hty, hdf, w1, w2, w3⟩ := F
  have hKn := hTT.1.1 ci _ hcl
  subst hN
  refine W.newcK hx hb hown (hts _ w1) (hts _ w2) (hts _ w3) rfl hdg hcells hslots hKn.2.1 hw.1.1 fun H1 kC hkC e1 z1 o1 => ?_
  refine kk H1 ?_
  refine hw.new hlo (by rw [z1, hw.1.1]) (fun q hq => o1 q (by rw [← hw.1.1]; exact hq)) (fun e9 he => ?_)
  rw [w_ce_o hci (by rw [m_new_kd])] at he
  cases he
  refine ⟨_, hcl, (u_born ty hts hin hKn hkC e1 hty).to (fun j hj => ?_)⟩
  rw [hdf j hj]
  show _ = (w_fs _ _ ci).getD j .null
  have h9 := w_fs_at (iv := m_iv (m_new M (10 + ci, 0)) (m_sz M)) (rv := m_rv (m_new M (10 + ci, 0)) (m_sz M)) hj
  rw [List.getD_eq_getElem?_getD, h9, m_new_iv, m_new_rv]
  simp [w_fv]
  split <;> rfl
def nwI (M : Mem) (B : Nat) (n : Int32) : Option (Nat × Mem) := if ¬ n < 0 ∧ n.toNatClampNeg ≤ B then some (m_sz M, m_new M (1, n.toNatClampNeg)) else none
theorem gx_newI {B : Nat} {n : Int32} {k : Nat × Mem → Option β} (E : wE G p l s m args meth c cc own nL) (hw : w_W G M r s H locs) (hB : B ≤ 20000) (w1 : Cond.arrayClass .int ∈ wTB) (hcells : cells + 1 ≤ R.cells) (hslots : slots + B ≤ R.slots) (hdg : decode cc pc = .ok (.newarray .int, 2))
    (kk : ∀ z H1, nwI M B n = some z → z.1 = m_sz M → w_W G z.2 r s H1 locs → W p l e R s m args below meth c H1 locs (cells + 1) (slots + B) (PQ G below args s mc ms cv (k z)) (F0 m (pc + 2) ls (.ref z.1 :: rest))) : W p l e R s m args below meth c H locs cells slots (PQ G below args s mc ms cv ((nwI M B n).bind k)) (F0 m pc ls (.int n :: rest)) := by
  refine W_bind fun z hv => ?_
  have hk : ¬ n < 0 ∧ n.toNatClampNeg ≤ B := by
    by_cases hk : ¬ n < 0 ∧ n.toNatClampNeg ≤ B
    · exact hk
    · simp only [nwI, if_neg hk] at hv; cases hv
  have hv' : (m_sz M, m_new M (1, n.toNatClampNeg)) = z := by
    simp only [nwI, if_pos hk] at hv; exact Option.some.inj hv
  obtain ⟨hx, hb, hts, hown, hml, hTT, -, hlo, -⟩ := E
  have hcA : s.vm.findClass ("[" ++ FieldType.int.toString) = some (g_I G) := (hTT.1.2 0 _ rfl).2
  refine va_newaK (atype := .int) hx hb (hts _ w1) rfl hdg rfl hk.1 rfl (by show n.toNatClampNeg * 4 ≤ _; omega) hcells (by omega) hw.1.1 fun H1 cA e1 z1 o1 hAr hfc => ?_
  have hcA' : cA = g_I G := Option.some.inj (hfc.symm.trans hcA)
  subst hcA'
  refine W.widen (k := cells + 1) (n := slots + B) (Nat.le_refl _) (by omega) ?_
  have := kk z H1 hv (by rw [← hv']) (by
    rw [← hv']
    refine hw.new hlo (by rw [z1, hw.1.1]) (fun q hq => o1 q (by rw [← hw.1.1]; exact hq)) (fun e9 he => ?_)
    rw [w_ce_i (by rw [m_new_kd])] at he
    cases he
    show H1[m_sz M]? = some (vp_cell _ _)
    rw [vp_cell_i, m_new_kd, m_new_iv]
    exact e1)
  rw [← hv'] at this ⊢
  exact this
def nwL (M : Mem) (B : Nat) (n : Int32) : Option (Nat × Mem) := if ¬ n < 0 ∧ n.toNatClampNeg ≤ B then some (m_sz M, m_new M (4, n.toNatClampNeg)) else none
theorem gx_newL {B : Nat} {n : Int32} {k : Nat × Mem → Option β} (E : wE G p l s m args meth c cc own nL) (hw : w_W G M r s H locs) (hB : B ≤ 20000) (w1 : Cond.arrayClass .long ∈ wTB) (hcells : cells + 1 ≤ R.cells) (hslots : slots + B ≤ R.slots) (hdg : decode cc pc = .ok (.newarray .long, 2))
    (kk : ∀ z H1, nwL M B n = some z → z.1 = m_sz M → w_W G z.2 r s H1 locs → W p l e R s m args below meth c H1 locs (cells + 1) (slots + B) (PQ G below args s mc ms cv (k z)) (F0 m (pc + 2) ls (.ref z.1 :: rest))) : W p l e R s m args below meth c H locs cells slots (PQ G below args s mc ms cv ((nwL M B n).bind k)) (F0 m pc ls (.int n :: rest)) := by
  refine W_bind fun z hv => ?_
  have hk : ¬ n < 0 ∧ n.toNatClampNeg ≤ B := by
    by_cases hk : ¬ n < 0 ∧ n.toNatClampNeg ≤ B
    · exact hk
    · simp only [nwL, if_neg hk] at hv; cases hv
  have hv' : (m_sz M, m_new M (4, n.toNatClampNeg)) = z := by
    simp only [nwL, if_pos hk] at hv; exact Option.some.inj hv
  obtain ⟨hx, hb, hts, hown, hml, hTT, -, hlo, -⟩ := E
  have hcA : s.vm.findClass ("[" ++ FieldType.long.toString) = some (g_J G) := (hTT.1.2 3 _ rfl).2
  refine va_newaK (atype := .long) hx hb (hts _ w1) rfl hdg rfl hk.1 rfl (by show n.toNatClampNeg * 8 ≤ _; omega) hcells (by omega) hw.1.1 fun H1 cA e1 z1 o1 hAr hfc => ?_
  have hcA' : cA = g_J G := Option.some.inj (hfc.symm.trans hcA)
  subst hcA'
  refine W.widen (k := cells + 1) (n := slots + B) (Nat.le_refl _) (by omega) ?_
  have := kk z H1 hv (by rw [← hv']) (by
    rw [← hv']
    refine hw.new hlo (by rw [z1, hw.1.1]) (fun q hq => o1 q (by rw [← hw.1.1]; exact hq)) (fun e9 he => ?_)
    rw [w_ce_j (by rw [m_new_kd])] at he
    cases he
    show H1[m_sz M]? = some (vp_cell _ _)
    rw [vp_cell_l, m_new_kd, m_new_lv]
    exact e1)
  rw [← hv'] at this ⊢
  exact this
/-- rows of Person (2), of Town (3) -/
def nwR (M : Mem) (kd B : Nat) (n : Int32) : Option (Nat × Mem) := if ¬ n < 0 ∧ n.toNatClampNeg ≤ B then some (m_sz M, m_new M (kd, n.toNatClampNeg)) else none
theorem gx_newR {B kd index : Nat} {C : String} {n : Int32} {k : Nat × Mem → Option β} (E : wE G p l s m args meth c cc own nL) (hw : w_W G M r s H locs) (hC : (kd = 2 ∧ C = "CheekTown$Person") ∨ (kd = 3 ∧ C = "CheekTown$Town")) (hB : B ≤ 20000) (w1 : Cond.classLink own index C ∈ wTB) (hcells : cells + 1 ≤ R.cells) (hslots : slots + B ≤ R.slots) (hdg : decode cc pc = .ok (.anewarray index, 3))
    (kk : ∀ z H1, nwR M kd B n = some z → z.1 = m_sz M → w_W G z.2 r s H1 locs → W p l e R s m args below meth c H1 locs (cells + 1) (slots + B) (PQ G below args s mc ms cv (k z)) (F0 m (pc + 3) ls (.ref z.1 :: rest))) : W p l e R s m args below meth c H locs cells slots (PQ G below args s mc ms cv ((nwR M kd B n).bind k)) (F0 m pc ls (.int n :: rest)) := by
  refine W_bind fun z hv => ?_
  have hk : ¬ n < 0 ∧ n.toNatClampNeg ≤ B := by
    by_cases hk : ¬ n < 0 ∧ n.toNatClampNeg ≤ B
    · exact hk
    · simp only [nwR, if_neg hk] at hv; cases hv
  have hv' : (m_sz M, m_new M (kd, n.toNatClampNeg)) = z := by
    simp only [nwR, if_pos hk] at hv; exact Option.some.inj hv
  obtain ⟨hx, hb, hts, hown, hml, hTT, -, hlo, -⟩ := E
  have hover : va_AO C s := by
    rcases hC with ⟨-, rfl⟩ | ⟨-, rfl⟩
    · exact hTT.2.2.2.1
    · exact hTT.2.2.2.2.1
  refine W.anew hx hb hown (hts _ w1) (va_AO.use hover) rfl hdg rfl hk.1 (by omega) hcells (by omega) fun cA kA comp f1 f2 f3 f4 => ?_
  generalize hH1 : H.push ({ cls := cA, slots := Array.replicate n.toNatClampNeg .null, vm := .none } : Cell) = H1
  have z1 : H1.size = H.size + 1 := by rw [← hH1, Array.size_push]
  have e1 : H1[H.size]? = some (arrV cA n.toNatClampNeg (fun _ => .null)) := by rw [← hH1, Array.getElem?_push_size, ← arrV_new]
  have o1 : ∀ q : Nat, q < H.size → H1[q]? = H[q]? := fun q hq => by rw [← hH1, Array.getElem?_push, if_neg (Nat.ne_of_lt hq)]
  refine W.widen (k := cells + 1) (n := slots + B) (Nat.le_refl _) (by omega) ?_
  have := kk z H1 hv (by rw [← hv']) (by
    rw [← hv']
    refine hw.new hlo z1 o1 (fun e9 he => ?_)
    rcases hC with ⟨rfl, rfl⟩ | ⟨rfl, rfl⟩
    · rw [w_ce_p (by rw [m_new_kd])] at he
      cases he
      have hcA : s.vm.findClass ("[" ++ (FieldType.object "CheekTown$Person").toString) = some (g_P G) := by
        obtain ⟨_, _, _, _, _, h⟩ := (hTT.1.2 1 _ rfl).2
        exact h
      have hcA' : cA = g_P G := Option.some.inj (f1.symm.trans hcA)
      subst hcA'
      show H1[m_sz M]? = some (vp_cell _ _)
      rw [vp_cell_q, m_new_kd, m_new_rv, ← hw.1.1]
      exact e1
    · rw [w_ce_t (by rw [m_new_kd])] at he
      cases he
      have hcA : s.vm.findClass ("[" ++ (FieldType.object "CheekTown$Town").toString) = some (g_T G) := by
        obtain ⟨_, _, _, _, _, h⟩ := (hTT.1.2 2 _ rfl).2
        exact h
      have hcA' : cA = g_T G := Option.some.inj (f1.symm.trans hcA)
      subst hcA'
      show H1[m_sz M]? = some (vp_cell _ _)
      rw [vp_cell_q, m_new_kd, m_new_rv, ← hw.1.1]
      exact e1)
  rw [← hv'] at this ⊢
  rw [hw.1.1]
  exact this
end Ry
