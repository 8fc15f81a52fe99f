/-! throwing NoSuchElementException: its constructor names the next one by constant 13 -/
def nx_X : String := "java/util/NoSuchElementException"
def nx_Y : String := "java/lang/RuntimeException"
def nx_Z : String := "java/lang/Exception"
abbrev nx_code : ByteArray := prog_34_method_4_code
def nx_own : String := "CheekTown"
/-- the words of its throw -/
def nx_all : List Cond := Bundle.throwableAtoms ++ Bundle.throwableSAtoms ++ (Bundle.passSAtoms nx_X nx_Y 13 nx_code ++ Bundle.chainSAtoms nx_Y [nx_Z]) ++ (Bundle.ownAtoms nx_own 148 nx_X [nx_Y, nx_Z]).drop (Bundle.throwableAtoms ++ Bundle.throwableSAtoms ++ Bundle.chainSAtoms nx_X [nx_Y, nx_Z]).length
def wn_atS (own : String) (ic : Nat) (X : String) (names : List String) : List Cond := nx_all.filter vx_no
theorem nx_0 : decode nx_code 0 = .ok (.aload_n 0, 1) := by decide +kernel
theorem nx_1 : decode nx_code 1 = .ok (.aload_n 1, 1) := by decide +kernel
theorem nx_2 : decode nx_code 2 = .ok (.invokespecial 13, 3) := by decide +kernel
theorem nx_5 : decode nx_code 5 = .ok (.return_, 1) := by decide +kernel
section Nx
variable {p : Program} {l : Launch} {e : Env} {R : Room} {s : State} {m : MethodId} {args : Array Value} {below : List Frame} {meth : Method} {c : Code} {U0 : State} {locs : List Loc} {cells slots : Nat}
set_option maxHeartbeats 4000000 in
/-- from the constructor's call to the end of the frame -/
theorem nx_ctor (X : Stand p l e R s m args below meth c U0 locs cells slots) (hexec : p.tables.exec = Jvm.exec) (htr : e.platform.stackTraces = false)
    (hown : s.vm.findClass nx_own = some m.cls) (h : ∀ w ∈ nx_all, w.before args s = true) (hlocs : ∀ x ∈ locs, False)
    {a : Addr} {cX : ClassId} {kX : Class} (hfX : s.vm.findClass nx_X = some cX) (hkX : s.vm.classes[cX]? = some kX) (hcell : U0.heap[a]? = some (freshCell cX kX)) (hnew : s.heap.size ≤ a)
    {sa : Nat} {g : JFrame} (hg : g.method = m) (hsize : g.locals.size = c.maxLocals) (hlocked : g.locked = none) (hentered : g.entered = []) {rest : List Value} (hstack : g.stack = .ref sa :: .ref a :: .ref a :: rest)
    (d6 : decode c.code g.pc = .ok (.invokespecial 148, 3)) (d9 : decode c.code (g.pc + 3) = .ok (.athrow, 1)) (hout : ∀ x ∈ c.exceptionTable.toList, covers x (g.pc + 3) = false)
    (hRf : 2 + 3 < R.frames) (hRl : 2 * g.monitorRoom + ((Value.ref a :: rest).map fun v => v.category).sum + (13 * (2 + 1) + 42) ≤ R.locals) (hlocks : meth.locks = false) :
    ∃ U : State, Steps p.tables e below (U0.setTop g) U ∧ U.status = .running ∧ Ended U below (.threw a) ∧ s.WarmedH U.vm ∧ s.sameButNew ({ U with vm := s.vm } : State) locs cells slots ∧
      ∃ ce : Cell, U.heap[a]? = some ce ∧ s.vm.findClass nx_X = some ce.cls ∧ ce.vm = .none := by
  have hP : e.platform.frameOwnsMonitors = true ∧ e.platform.finalization = false ∧ e.platform.magicAccessors = ({} : Platform).magicAccessors := by rw [X.admits.platform]; exact ⟨rfl, rfl, rfl⟩
  have hh : ∀ w, w ∈ nx_all → w.holds args s none s [] = true := fun w hw => h w hw
  have hsub : ∀ (A : List Cond) (k : Nat), A = (nx_all.drop k).take A.length → ∀ w ∈ A, w.before args s = true := fun A k e9 w hw => by
    rw [e9] at hw
    exact h w (List.mem_of_mem_drop (List.mem_of_mem_take hw))
  obtain ⟨T, Z0, L, -, Y⟩ := ThrowableC.of_atoms (args := args) hP.1 hP.2.1 hP.2.2 (hsub _ 0 (by decide +kernel))
  obtain ⟨Z, N, LZ, LN, hZ⟩ := Init0T.ofS_atoms (args := args) hP.2.2 L Y (hsub _ Bundle.throwableAtoms.length (by decide +kernel))
  obtain ⟨P, LP, hPm, hPs⟩ := PassC.ofS_atoms (args := args) (s := s) hP.2.2 (X := nx_X) (Y := nx_Y) (by decide +kernel) (by decide +kernel) nx_0 nx_1 nx_2 nx_5 (hsub _ (Bundle.throwableAtoms.length + Bundle.throwableSAtoms.length) (by decide +kernel))
  obtain ⟨P', Ps, hlen, LP', hL, hm', hsup, hpass⟩ := Bundle.chainS (args := args) hP.2.2 hZ [nx_Z] nx_Y (by decide +kernel) (by decide +kernel) (hsub _ (Bundle.throwableAtoms.length + Bundle.throwableSAtoms.length + 5) (by decide +kernel))
  have hup : P.sup = P'.m := Option.some.inj (hPs.symm.trans hm')
  have hf1 : s.vm.findClass nx_X = some P.m.cls := findClass_of_methodNamed hPm
  cases Option.some.inj (hfX.symm.trans hf1)
  obtain ⟨c1, k1, hc1, hk1, hord, -, -, -⟩ := Cond.instantiable_spec (hh (.instantiable nx_X 6) (by decide +kernel))
  cases Option.some.inj (hc1.symm.trans hf1)
  cases Option.some.inj (hkX.symm.trans hk1)
  have hs0 : selectMethod e.platform s.vm P.m.cls T.fill0 = .method T.fill0 := by
    obtain ⟨c2, r2, m2, q1, q2, q3, q4, -⟩ := Cond.selects_spec (hh (.selects nx_X Bundle.tFill0 Bundle.tFill0) (by decide +kernel))
    cases Option.some.inj (q1.symm.trans hf1)
    cases Option.some.inj (q2.symm.trans (State.methodFound?_of_named Y.fill0 (by decide)))
    cases Option.some.inj (q3.symm.trans Y.fill0)
    rw [Launch.admits_selectMethod X.admits]
    exact q4
  have hs1 : selectMethod e.platform s.vm P.m.cls T.fill = .method T.fill := by
    obtain ⟨c2, r2, m2, q1, q2, q3, q4, -⟩ := Cond.selects_spec (hh (.selects nx_X Bundle.tFill Bundle.tFill) (by decide +kernel))
    cases Option.some.inj (q1.symm.trans hf1)
    cases Option.some.inj (q2.symm.trans (State.methodFound?_of_named Y.fill (by decide)))
    cases Option.some.inj (q3.symm.trans Y.fill)
    rw [Launch.admits_selectMethod X.admits]
    exact q4
  obtain ⟨sc, hsc, hss⟩ := Y.statics
  obtain ⟨u0, hu0⟩ := Cond.staticRefV Y.unassigned L.unassignedStatic L.statics hsc hss (hh (.isRef (.static Bundle.tN "UNASSIGNED_STACK" Bundle.steD)) (by decide +kernel))
  obtain ⟨u1, hu1⟩ := Cond.staticRefV Y.sentinel L.sentinelStatic L.statics hsc hss (hh (.isRef (.static Bundle.tN "SUPPRESSED_SENTINEL" Bundle.listD)) (by decide +kernel))
  obtain ⟨b1, b2, fB, hb1, hb2, hb3, hb4, -, hb5, hb6, hb7⟩ := Cond.ownField (t := .object "java/lang/Object") Y.found L.cls (by decide +kernel) (hh (.fieldLink Bundle.tN 198 Bundle.tN "backtrace" "Ljava/lang/Object;") (by decide +kernel)) (hh (.lays Bundle.tN Bundle.tN "backtrace" "Ljava/lang/Object;") (by decide +kernel)) e.platform hP.2.2
  obtain ⟨sc', hsc', he1, -, he2⟩ := X.same.2.2.2.2.2 T.aS sc hsc
  have hse : sc'.vm ≠ .unknown := by
    rw [he1]
    intro hu
    rw [hu] at hss
    cases hss
  have hne : T.aS ≠ a := Nat.ne_of_lt (Nat.lt_of_lt_of_le (Array.getElem?_eq_some_iff.mp hsc).1 hnew)
  obtain ⟨fm, hfm⟩ := Y.msg
  obtain ⟨t1, x1, y1, z1⟩ := Cond.laysAt hf1 hk1 Y.cause (hh (.lays nx_X Bundle.tN "cause" "Ljava/lang/Throwable;") (by decide +kernel))
  obtain ⟨t2, x2, y2, z2⟩ := Cond.laysAt hf1 hk1 Y.stack (hh (.lays nx_X Bundle.tN "stackTrace" Bundle.steD) (by decide +kernel))
  obtain ⟨t3, x3, y3, z3⟩ := Cond.laysAt hf1 hk1 Y.supp (hh (.lays nx_X Bundle.tN "suppressedExceptions" Bundle.listD) (by decide +kernel))
  obtain ⟨t4, x4, y4, z4⟩ := Cond.laysAt hf1 hk1 hfm (hh (.lays nx_X Bundle.tN "detailMessage" "Ljava/lang/String;") (by decide +kernel))
  obtain ⟨t5, x5, y5, z5⟩ := Cond.laysAt hf1 hk1 hb7 (hh (.lays nx_X Bundle.tN "backtrace" "Ljava/lang/Object;") (by decide +kernel))
  have v1 := Cond.laysApart y5 y1 z5 z1 (by rw [hb5, Y.causeName]; decide)
  have v2 := Cond.laysApart y5 y2 z5 z2 (by rw [hb5, Y.stackName]; decide)
  have v3 := Cond.laysApart y5 y3 z5 z3 (by rw [hb5, Y.suppName]; decide)
  have hskip : SkipFacts T e.platform s (fun u => u) u0 ((preparedCellV T.toThrowableT (freshCell P.m.cls kX) a u0 u1).withEntry U0.cur) :=
    ⟨{ ci198 := b1, i198 := b2, fBack := fB }, ⟨hb1, hb2, hb3, hb4⟩, by
      have h9 := fresh_default (c := P.m.cls) t5
      rw [hb6] at h9
      simpa [preparedCellV, Cell.setSlot, Cell.withEntry, Array.getElem?_setIfInBounds, v1, v2, v3, v1.symm, v2.symm, v3.symm, defaultValue] using h9, fun _ _ => rfl⟩
  obtain ⟨tm, mC, cC, kC, vm1, hn1, -, -, -, -, -, -, -, hW1, st1⟩ := Steps.initColdS (tb := p.tables) (e := e) (below := below) (s := s) (U := U0) X.here hexec X.warmed hP.2.2 hown (t := Bundle.initS nx_X) rfl rfl (by decide +kernel)
    (hh (.methodLink nx_own 148 (Bundle.initS nx_X)) (by decide +kernel)) (h (.instanceMethod (Bundle.initS nx_X)) (by decide +kernel)) (bytes := nx_code) (maxL := 2) (h (.code (Bundle.initS nx_X) nx_code 2 none) (by decide +kernel))
    (f := g) hg (a := a) (msg := .ref sa) (rest := .ref a :: rest) hstack d6
  cases Option.some.inj (hn1.symm.trans hPm)
  have X1 := X.noted hW1
  obtain ⟨vm2, X2, st2⟩ := X1.ctorMessageOffV hexec (g := { g with stack := .ref a :: rest }) hg hsize T L Z LZ N LN (P :: P' :: Ps)
    (fun Q hQ => by
      rcases List.mem_cons.mp hQ with rfl | hQ
      · exact LP
      · rcases List.mem_cons.mp hQ with rfl | hQ
        · exact LP'
        · exact hL Q hQ) ⟨hup, hsup, hpass⟩ (u0 := u0) (sen := u1) (self := a) (msg := .ref sa) rfl (cell := freshCell P.m.cls kX) (cellS := sc')
    hcell (fun _ => by simp) (by simp) rfl rfl hs0 hs1 hsc' hne hse (by rw [he2 _ (fun i => hlocs _ i)]; exact hu0) (by rw [he2 _ (fun i => hlocs _ i)]; exact hu1)
    (Takes.of_laid hk1 hord t1 (by rw [Y.causeType]; rfl)) (Takes.of_laid hk1 hord t2 (by rw [Y.stackType]; exact fits_refV_array _ u0)) (Takes.of_laid hk1 hord t3 (by rw [Y.suppType]; exact fits_refV_object _ u1))
    (Takes.of_laid hk1 hord t4 (by rw [Y.msgType]; exact fits_refV_object _ ⟨.ref sa, rfl⟩)) Y.objLocals hskip htr [] d6
    (by simp only [List.length_cons, hlen]; exact hRf) (by simp only [List.length_cons, hlen]; exact hRl)
  obtain ⟨hwalk, hrun, hend, hWU, hsame⟩ := X2.athrowLeaves hexec (g := { g with stack := .ref a :: rest, pc := g.pc + 3 }) hg hlocked hentered hout (a := a) (rest := rest) rfl d9
  have hlt : a < ((U0.setVm vm1).setVm vm2).heap.size := (Array.getElem?_eq_some_iff.mp hcell).1
  have hU := heapAt_setCell_self (s := (U0.setVm vm1).setVm vm2) (plainBareV T.toThrowableT (freshCell P.m.cls kX) a u0 u1 (.ref sa)) hlt
  refine ⟨_, st1 _ (fun acts => ?_), hrun, hend, hWU, hsame.weaken (fun y hy hl9 => ?_) (Nat.le_refl _) (Nat.le_refl _), _, hU, hf1, rfl⟩
  · rw [doInvoke_state]
    exact st2 _ hwalk
  · rcases List.mem_append.mp hy with h1 | h1
    · exact h1
    · exfalso
      have hb : y.base = a := by
        simp only [List.mem_cons, List.not_mem_nil, or_false] at h1
        rcases h1 with rfl | rfl | rfl | rfl | rfl <;> rfl
      rw [hb] at hl9
      exact Nat.not_lt.mpr hnew hl9
end Nx
def ThrNOK (own cls text : String) (names : List String) (ik is ic : Nat) : Prop := (own = nx_own ∧ cls = nx_X ∧ ic = 148 ∧ names = [nx_Y, nx_Z]) ∧ Cond.classLink own ik cls ∈ wTB ∧ Cond.initialized cls ∈ wTB ∧ (∃ i : Nat, s_tab[i]? = some (own, is, text)) ∧ (∀ w ∈ wn_atS own ic cls names, w ∈ wTB ∨ w ∈ wXW) ∧ (∀ w ∈ Cond.classLink own ik cls :: Cond.initialized cls :: wn_atS own ic cls names, vx_ot w = true)
section Nx2
variable {p : Program} {l : Launch} {e : Env} {R : Room} {s : State} {m : MethodId} {args : Array Value} {below : List Frame} {meth : Method} {c : Code} {H : Heap} {locs : List Loc} {cells slots : Nat} {Q : State → Prop}
variable {cc : ByteArray} {pc : Nat} {ls : Array Slot} {rest : List Value} {G : wG} {own : String} {nL mc ms : Nat} {M : Mem} {r : Rho} {β : Type} {cv : β → Out}
set_option maxHeartbeats 4000000 in
theorem gx_throwN {cls text : String} {names : List String} {ik is ic : Nat} {z : β} (E : wE G p l s m args meth c cc own nL) (hno : ∀ x ∈ c.exceptionTable.toList, False) (hw : w_W G M r s H locs) (F : ThrNOK own cls text names ik is ic) (hsize : ls.size = nL)
    (d0 : decode cc pc = .ok (.new ik, 3)) (d3 : decode cc (pc + 3) = .ok (.dup, 1)) (d4 : decode cc (pc + 4) = .ok (.ldc is, 2)) (d6 : decode cc (pc + 6) = .ok (.invokespecial ic, 3)) (d9 : decode cc (pc + 9) = .ok (.athrow, 1))
    (hRframes : names.length + 3 < R.frames) (hRlocals : (rest.map fun v => v.category).sum + (13 * (names.length + 1) + 43) ≤ R.locals) (hRcells : cells + 1 ≤ R.cells) (hRslots : slots + 6 ≤ R.slots) (hc : cells + 1 ≤ mc) (hs : slots + 6 ≤ ms) (hz : cv z = (.inr cls, m_new M (0, 0), r)) :
    W p l e R s m args below meth c H locs cells slots (PQ G below args s mc ms cv (some z)) (F0 m pc ls rest) := by
  obtain ⟨⟨rfl, rfl, rfl, rfl⟩, h3, h4, ⟨i, h5⟩, h6, h7⟩ := F
  obtain ⟨hx, hb, hts, hown, hml, hTT, hC, hlo, hlk, hst⟩ := E
  intro T hT X
  have htr : e.platform.stackTraces = false := (show e.platform.stackTraces = l.stackTraces by rw [X.admits.platform]).trans hst
  have Y := vx_rebase X (R' := { frames := R.frames, locals := R.locals, cells := 1, slots := 6 }) (Nat.le_refl _) (Nat.le_refl _) hRcells hRslots
  obtain ⟨s', hA⟩ : ∃ z, z = (T.setVm s.vm).setFrames (.invoking m args :: below) := ⟨_, rfl⟩
  rw [← hA] at Y
  have hvm : s'.vm = s.vm := by rw [hA]; rfl
  have hhp : s'.heap = H := by rw [hA]; exact hT
  have hW0 : s.WarmedH s'.vm := by rw [hvm]; exact State.WarmedH.refl s
  have hat : ∀ w ∈ nx_all.filter vx_no, w.before args s = true := fun w hw9 => by
    rcases h6 w hw9 with h | h
    · exact hts w h
    · exact va_Nw.use (w_x_on (List.mem_filter.mp h).2) (hTT.2.1 w h)
  have hat' : ∀ w ∈ nx_all.filter vx_no, w.before args s' = true := fun w hw9 => vx_ot_at hW0 hvm.symm (h7 w (List.mem_cons_of_mem _ (List.mem_cons_of_mem _ hw9))) (hat w hw9)
  have hk' := vx_ot_at (a' := args) hW0 hvm.symm (h7 _ List.mem_cons_self) (hts _ h3)
  have hi' := vx_ot_at (a' := args) hW0 hvm.symm (h7 _ (List.mem_cons_of_mem _ List.mem_cons_self)) (hts _ h4)
  have hU' : vx_Zq Bundle.tN "UNASSIGNED_STACK" Bundle.steD (g_A G) s' s'.heap := by rw [hhp]; exact vx_Zq.moved hW0.alike (hC.2.1.kept hw.2.2.1)
  have hN' : vx_Zq Bundle.tN "SUPPRESSED_SENTINEL" Bundle.listD (g_A G) s' s'.heap := by rw [hhp]; exact vx_Zq.moved hW0.alike (hC.2.2.1.kept hw.2.2.1)
  have h : ∀ w ∈ nx_all, w.before args s' = true := vx_own hat' (vx_isRefq hU'.1) (vx_isRefq hN'.1) hU'.2.word hN'.2.word
  have hown' : s'.vm.findClass nx_own = some m.cls := by rw [hvm]; exact hown
  obtain ⟨vm1, cX, kX, hfX, hkX, -, -, X1, st1⟩ := Y.newCold hx (own := nx_own) (C := nx_X) (index := ik) (n := 6) hown' hk' (h _ (by decide +kernel)) hi'
    (g := F0 m pc ls rest) rfl (by rw [hb]; exact d0) (Nat.le_refl _) (Nat.le_refl _)
  generalize hT1 : (T.setVm vm1).pushCell { cls := cX, slots := kX.instanceTypes.map defaultValue, vm := .none } = T1 at X1 st1
  have hcat : (Value.ref T.heap.size).category = 1 := rfl
  have hcA : T1.heap[T.heap.size]? = some (freshCell cX kX) := by rw [← hT1]; exact State.heap_pushCell_size _ _
  have d3' : decode c.code (pc + 3) = .ok (.dup, 1) := by rw [hb]; exact d3
  have d4' : decode c.code (pc + 4) = .ok (.ldc is, 2) := by rw [hb]; exact d4
  have hstr : vk_R nx_own is text (g_sk G i) s' := vk_R.warm hW0 (hTT.2.2.1 i _ h5)
  obtain ⟨U, hsteps, hrun, hend, hW, hsame, ce, hce, hcc, hcv⟩ := nx_ctor X1 hx htr hown' h (fun x hx9 => nomatch hx9) hfX hkX hcA (by rw [hhp, hT]; exact Nat.le_refl _) (sa := g_sk G i)
    (g := { method := m, pc := pc + 6, locals := ls, stack := .ref (g_sk G i) :: .ref T.heap.size :: .ref T.heap.size :: rest, locked := none }) rfl (hsize.trans hml.symm) rfl rfl (rest := rest) rfl
    (by rw [hb]; exact d6) (by rw [hb]; exact d9) (fun x hx9 => (hno x hx9).elim) hRframes (by
      simp only [List.map_cons, List.sum_cons, hcat]
      have h9 : (rest.map fun v => v.category).sum + (13 * (2 + 1) + 43) ≤ R.locals := hRlocals
      show 2 * 0 + _ + _ ≤ _
      omega) hlk
  obtain ⟨f1, f2⟩ := vx_frame hsame
  rw [hhp] at f1 f2
  have f3 : U.heap.size = H.size + 1 := by
    have a1 : U.heap.size ≤ s'.heap.size + 1 := hsame.2.2.1
    have a2 := (Array.getElem?_eq_some_iff.mp hce).1
    rw [hhp] at a1
    rw [hT] at a2
    exact Nat.le_antisymm a1 a2
  have hWs : s.WarmedH U.vm := State.WarmedH.trans hW0 hW
  have hcl : s.vm.findClass nx_X = some ce.cls := by
    rw [hvm] at hcc
    exact hcc
  have hall : s.sameButNew ({ U with vm := s.vm } : State) locs mc ms := by
    subst hA
    obtain ⟨e1, e2⟩ := hsame
    rw [State.setFrames_setFrames] at e1
    have h2 : (T.setVm s.vm).sameButNew ({ U with vm := s.vm } : State) [] (0 + 1) (0 + 6) := ⟨e1, e2⟩
    have h3 := X.same.trans h2
    rw [List.append_nil] at h3
    exact h3.mono hc hs
  have hw2 : w_W G (m_new M (0, 0)) r s U.heap locs := hw.new hlo f3 (fun q hq => f2 q hq (fun z9 hz9 => nomatch hz9)) (fun e9 he => absurd (by rw [m_new_kd]) (w_ce_0 he))
  refine ⟨U, ?_, fun z' h' => ?_⟩
  · refine st1 _ ?_
    show Steps p.tables e below (T1.setTop { method := m, pc := pc + 3, locals := ls, stack := .ref T.heap.size :: rest, locked := none }) _
    jvm_step X1.here [X1.here.top, hx, d3', Value.category]
    exact X1.ldcString hx (own := nx_own) (text := text) (index := is) (a := g_sk G i) hown' hstr.1 hstr.2
      (g := { method := m, pc := pc + 4, locals := ls, stack := .ref T.heap.size :: .ref T.heap.size :: rest, locked := none }) rfl d4' _ hsteps
  · cases h'
    exact ⟨.threw T.heap.size, hrun, hend, Or.inr ⟨T.heap.size, rfl, nx_X, ce, locs, ⟨by rw [hz], by rw [hz]; exact hw2.1, hw2.2.F rfl⟩, hce, hcv, hcl, hWs, hall, hw.2.2.2⟩⟩
end Nx2
