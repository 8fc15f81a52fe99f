/-! methods with a table of handlers -/
def wWsH (y : MethodName) (cc : ByteArray) (maxL : Nat) (ret : Option FieldType) (hh : List (Nat × Nat × Nat × Nat)) : List Cond := Cond.codeWith y cc maxL ret hh :: wTB
def CodeHOK (y : MethodName) (cc' : ByteArray) (maxL' : Nat) (ret' : Option FieldType) (hh : List (Nat × Nat × Nat × Nat)) (n : Nat) : Prop := Cond.codeWith y cc' maxL' ret' hh ∈ wTB ∧ Cond.initialized y.cls ∈ wTB ∧ (y.cls ≠ "java/lang/invoke/MethodHandle" ∧ y.cls ≠ "java/lang/invoke/VarHandle" ∧ (parseMethodDescriptor y.desc).map (fun d => d.parameters.length) = some n)
section Rh
variable {p : Program} {l : Launch} {e : Env} {R : Room} {s : State} {m : MethodId} {args : Array Value} {below : List Frame} {meth : Method} {c : Code} {H : Heap} {locs : List Loc} {cells slots : Nat} {Q : State → Prop}
variable {cc : ByteArray} {pc : Nat} {ls : Array Slot} {rest st0 : List Value} {G : wG} {own : String} {nL mc ms : Nat} {M : Mem} {r : Rho} {β : Type} {cv : β → Out} {g : JFrame} {q : Addr}
variable {y : MethodName} {cc' : ByteArray} {maxL' n index : Nat} {ret' : Option FieldType} {rm : Room} {As : List Value} {X : Out} {hh : List (Nat × Nat × Nat × Nat)}
theorem vxW_none : vx_W p l e R s m args below meth c H locs cells slots (PQ G below args s mc ms cv none) g q := by
  intro T hT X
  exact ⟨_, Steps.refl _, fun z h => nomatch h⟩
theorem vxW_ite {P : Prop} [Decidable P] {x y : Option β} (h1 : P → vx_W p l e R s m args below meth c H locs cells slots (PQ G below args s mc ms cv x) g q) (h2 : ¬ P → vx_W p l e R s m args below meth c H locs cells slots (PQ G below args s mc ms cv y) g q) : vx_W p l e R s m args below meth c H locs cells slots (PQ G below args s mc ms cv (if P then x else y)) g q := by
  by_cases h : P
  · rw [if_pos h]; exact h1 h
  · rw [if_neg h]; exact h2 h
theorem gx_catch {E9 : String} {ce : Cell} {pre suf : List (Nat × Nat × Nat × Nat)} {x : Nat × Nat × Nat × Nat} (E : wE G p l s m args meth c cc own nL) (htab : c.exceptionTable.toList = tableOf (pre ++ x :: suf))
    (hpass : ∀ z ∈ pre, z.2.2.2 ≠ 0 ∧ ∃ nm : String, Cond.classLink own z.2.2.2 nm ∈ wTB ∧ (E9, nm) ∈ s_nc) (hx : covers ⟨x.1, x.2.1, x.2.2.1, x.2.2.2⟩ pc = true) (h0 : x.2.2.2 ≠ 0)
    (hlink : Cond.classLink own x.2.2.2 E9 ∈ wTB) (hcast : Cond.castable E9 E9 ∈ wXW) (hce : H[q]? = some ce) (hcv : ce.vm = .none) (hcl : s.vm.findClass E9 = some ce.cls)
    (kk : W p l e R s m args below meth c H locs cells slots Q (F0 m x.2.2.1 ls [.ref q])) : vx_W p l e R s m args below meth c H locs cells slots Q (F0 m pc ls rest) q := by
  obtain ⟨-, -, hts, hown, -, hTT, -⟩ := E
  refine vx_catch (name := E9) hown (tableOf pre) ⟨x.1, x.2.1, x.2.2.1, x.2.2.2⟩ (tableOf suf) (by rw [htab]; simp [tableOf]) (fun z hz => ?_) hx h0 (hts _ hlink) (va_Nw.use (w_x_on (List.mem_filter.mp hcast).2) (hTT.2.1 _ hcast)) hce hcv hcl kk
  obtain ⟨z9, hz9, rfl⟩ := List.mem_map.mp hz
  obtain ⟨a1, nm, a2, a3⟩ := hpass z9 hz9
  exact Or.inr ⟨a1, nm, hts _ a2, hTT.2.2.2.2.2 _ a3⟩
theorem w_runSH (E : wE G p l s m args meth c cc own nL) (k : CallS own index y) (k2 : CodeHOK y cc' maxL' ret' hh n)
    (hM : vx_Met l y (wWsH y cc' maxL' ret' hh) rm (va_Pc As (w_U G M r)) (w_Q G X) (w_X G X) rm.cells rm.slots (g_A G)) (hR : rm.frames + 1 ≤ R.frames ∧ 8 + (maxL' + 11) + rm.locals ≤ R.locals) (hw : w_W G M r s H locs)
    (hn : As.length = n) (hsize : ls.size = nL) (hst : st0 = As.reverse ++ rest) (hrest : (rest.map fun v => v.category).sum ≤ 8) (hdg : decode cc pc = .ok (.invokestatic index, 3)) (hf : cells + rm.cells ≤ R.cells ∧ slots + rm.slots ≤ R.slots) :
    vx_Run p l e R s m args below meth c H locs cells slots rm.cells rm.slots (F0 m pc ls st0) rest (w_Q G X As.toArray) (w_X G X) (g_A G) := by
  have hcw : vx_CSW R s args own index y cc' maxL' ret' hh (wWsH y cc' maxL' ret' hh) rm rm.cells rm.slots n := by
    refine ⟨⟨rfl, rfl, hR.1, hR.2, fun w hw a' U hW => ?_, List.mem_cons_self⟩, E.2.2.1 _ k2.1, E.2.2.1 _ k2.2.1, ⟨k2.2.2.1, k2.2.2.2.1⟩, fun sig h => ?_, E.2.2.1 _ k.1, E.2.2.1 _ k.2⟩
    · have hm : w ∈ wTB := by
        rcases List.mem_cons.mp hw with rfl | hw
        · exact k2.1
        · exact hw
      exact word_at hW (tb_good _ hm) (E.2.2.1 _ hm)
    · have h2 := k2.2.2.2.2
      rw [h] at h2
      exact (Option.some.inj h2).symm
  exact vx_runSX (hh := hh) ⟨E.1, E.2.1, E.2.2.2.2.1, E.2.2.2.1, E.2.2.1⟩ hM hcw ⟨w_U_blind, fun U hU hW => ⟨rfl, w_U_at E hw hU hW⟩⟩ rfl hn hsize hst (lv_room hrest) hdg hf
end Rh
section Ri
variable {l : Launch} {y : MethodName} {cc : ByteArray} {maxL : Nat} {ret : Option FieldType} {hh : List (Nat × Nat × Nat × Nat)} {rm : Room} {mc ms : Nat} {G : wG} {av : List Value} {M : Mem} {r : Rho} {β : Type} {cv : β → Out} {o : Option β} {own : String}
/-- a contract out of a walk from the entry, where there are handlers -/
theorem Ctr.ofH (hy : plainName y.cls = true) (hfl : l.stackTraces = false) (hown : y.cls = own) (hml : (lg_sl av).length ≤ maxL)
    (body : ∀ p e s m args below meth c, wE G p l s m args meth c cc own maxL → c.exceptionTable.toList = tableOf hh → meth.sig.returnType = ret → meth.name = y.name → w_W G M r s s.heap [] → ∀ ls, lv_has ls maxL (lv_args 0 av) →
      W p l e rm s m args below meth c s.heap [] 0 0 (PQ G below args s mc ms cv o) (F0 m 0 ls [])) : Ctr l y (wWsH y cc maxL ret hh) rm mc ms G av M r (o.map cv) := by
  intro x hx
  obtain ⟨z, hz, rfl⟩ := Option.map_eq_some_iff.mp hx
  refine vx_ofWH (cc := cc) (maxL := maxL) (ret := ret) (hh := hh) hy rfl ?_
  intro p e s m args below meth c s₁ B hmx hv
  obtain ⟨rfl, hH, hT, hC, hlo⟩ := hv
  have hts : ∀ w ∈ wTB, w.before av.toArray s = true := fun w hw => atoms_spec (ws := wWsH y cc maxL ret hh) B.pre w (List.mem_cons_of_mem _ hw)
  have htab := vx_table (x := y) B (atoms_spec (ws := wWsH y cc maxL ret hh) B.pre _ List.mem_cons_self)
  have hE : wE G p l s m av.toArray meth c cc own maxL := ⟨B.exec, B.bytes, hts, by rw [← hown]; exact findClass_of_methodNamed B.named, hmx, hT, hC, hlo, B.notSynchronized, hfl⟩
  have hl := lv_entry av (n := maxL) hml
  rw [lg_entry_eq]
  have K := body p e s m av.toArray below meth c hE htab B.returns (name_of_methodNamed B.named B.method).1 ⟨hH, va_S.rf⟩ _ hl
  intro T hTT Y
  obtain ⟨t, a, b⟩ := K T hTT Y
  exact ⟨t, a, b z hz⟩
end Ri
