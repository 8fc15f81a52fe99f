section Rb
variable {l : Launch}
theorem vx_ofWF {y : MethodName} {ws ws' : List Cond} {rm : Room} {Pc : Array Value → State → Prop} {Qc : Array Value → State → Outcome → State → Prop} {XC : String → State → State → Prop} {mc ms : Nat} {free : Addr → Prop} {cc : ByteArray} {maxL : Nat} {ret : Option FieldType}
    (hy : plainFor y = true) (hw : ws = Cond.code y cc maxL ret :: ws')
    (body : ∀ p e s m args below meth c s₁, BodyLoose p l y (headSpec ws rm) cc maxL ret e s m args below meth c s₁ → c.maxLocals = maxL → (∀ x ∈ c.exceptionTable.toList, False) → Pc args s →
      W p l e (headSpec ws rm).room s m args below meth c s.heap [] 0 0 (vx_MQ below Qc XC args s mc ms free) (entryFrame m args maxL)) : vx_Met l y ws rm Pc Qc XC mc ms free := by
  refine MetFree.of_bodySF (code := cc) (maxLocals := maxL) (ret := ret) hy ?_ ?_
  · intro args s m h hn
    obtain ⟨meth, c, h1, h2, h3, h4, h5, h6, -, -⟩ := Cond.code_spec hn (atoms_spec (ws := ws) h _ (by rw [hw]; exact List.mem_cons_self))
    exact ⟨meth, c, h1, h2, h3, h4, h5, h6⟩
  · intro p e s m args below meth c s₁ B hml hP _
    have hh0 : s₁.heap = s.heap := by rw [B.state]; rfl
    have ht : ∀ x ∈ c.exceptionTable.toList, False := by
      obtain ⟨meth9, c9, h1, h2, -, -, -, -, h7, -⟩ := Cond.code_spec B.named (atoms_spec (ws := ws) B.pre _ (by rw [hw]; exact List.mem_cons_self))
      cases Option.some.inj (h1.symm.trans B.method)
      cases Option.some.inj (h2.symm.trans (Stand.of_body B).code)
      intro x hx
      rw [Array.isEmpty_iff.mp h7] at hx
      cases hx
    obtain ⟨t, a1, o, b1, b2, b3⟩ := body p e s m args below meth c s₁ B hml ht hP s₁ hh0 (Stand.of_body B)
    exact ⟨t, o, a1, b1, b2, b3⟩
end Rb
section Rd
variable {l : Launch} {y : MethodName} {cc : ByteArray} {maxL : Nat} {ret : Option FieldType} {rm : Room} {mc ms : Nat} {G : wG} {av : List Value} {M : Mem} {r : Rho} {β : Type} {cv : β → Out} {o : Option β} {own : String}
/-- a contract out of a walk from the entry -/
theorem Ctr.ofF (hy : plainFor y = true) (hfl : l.stackTraces = false) (hown : y.cls = own) (hml : (lg_sl av).length ≤ maxL)
    (body : ∀ p e s m args below meth c, wE G p l s m args meth c cc own maxL → (∀ x ∈ c.exceptionTable.toList, False) → meth.sig.returnType = ret → meth.name = y.name → w_W G M r s s.heap [] → ∀ ls, lv_has ls maxL (lv_args 0 av) →
      W p l e rm s m args below meth c s.heap [] 0 0 (PQ G below args s mc ms cv o) (F0 m 0 ls [])) : Ctr l y (wWs y cc maxL ret) rm mc ms G av M r (o.map cv) := by
  intro x hx
  obtain ⟨z, hz, rfl⟩ := Option.map_eq_some_iff.mp hx
  refine vx_ofWF (cc := cc) (maxL := maxL) (ret := ret) hy rfl ?_
  intro p e s m args below meth c s₁ B hmx hno hv
  obtain ⟨rfl, hH, hT, hC, hlo⟩ := hv
  have hts : ∀ w ∈ wTB, w.before av.toArray s = true := fun w hw => atoms_spec (ws := wWs y cc maxL ret) B.pre w (List.mem_cons_of_mem _ hw)
  have hE : wE G p l s m av.toArray meth c cc own maxL := ⟨B.exec, B.bytes, hts, by rw [← hown]; exact findClass_of_methodNamed B.named, hmx, hT, hC, hlo, B.notSynchronized, hfl⟩
  have hl := lv_entry av (n := maxL) hml
  rw [lg_entry_eq]
  have K := body p e s m av.toArray below meth c hE hno B.returns (name_of_methodNamed B.named B.method).1 ⟨hH, va_S.rf⟩ _ hl
  intro T hTT Y
  obtain ⟨t, a, b⟩ := K T hTT Y
  exact ⟨t, a, b z hz⟩
end Rd
