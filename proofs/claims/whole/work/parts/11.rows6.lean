/-- a divisor that isn't 0 -/
def nz (y : Int32) : Option Unit := if y = 0 then none else some ()
theorem nz_ok {y : Int32} {u : Unit} (h : nz y = some u) : ¬ y = 0 := by
  intro h0
  simp [nz, h0] at h
def ushr (x y : Int32) : Int32 := (x.toUInt32 >>> (y.toUInt32 &&& Int32.toUInt32 31)).toInt32
/-- an answer or an exception -/
def sx {α γ : Type} (x : α ⊕ String) (f : α → γ) (g : String → γ) : γ := match x with
  | .inl v => f v
  | .inr e => g e
/-- texts: how long, and what stands where -/
def sLen (i : Nat) : Option Int32 := if i < s_tab.length then some (Int32.ofNat (s_byt i).length) else none
def sAt (i : Nat) (k : Int32) : Option Int32 := if i < s_tab.length ∧ inR k (s_byt i).length = true then some ((s_byt i).getD k.toNatClampNeg 0) else none
section Re
variable {p : Program} {l : Launch} {e : Env} {R : Room} {s : State} {m : MethodId} {args : Array Value} {below : List Frame} {meth : Method} {c : Code} {H : Heap} {locs : List Loc} {cells slots : Nat} {Q : State → Prop}
variable {cc : ByteArray} {pc : Nat} {ls : Array Slot} {rest st0 : List Value} {G : wG} {own : String} {nL mc ms : Nat} {M : Mem} {r : Rho} {β : Type} {cv : β → Out}
variable {mc1 ms1 cells1 slots1 : Nat} {a9 : Array Value} {X : Out}
theorem va_ldcSW (hexec : p.tables.exec = Jvm.exec) (hb : c.code = cc) {tx : String} {index q : Nat} (hown : s.vm.findClass own = some m.cls) (hZ : vk_R own index tx q s) (hdg : decode cc pc = .ok (.ldc_w index, 3))
    (k : W p l e R s m args below meth c H locs cells slots Q (F0 m (pc + 3) ls (.ref q :: rest))) : W p l e R s m args below meth c H locs cells slots Q (F0 m pc ls rest) := by
  intro T hT X
  obtain ⟨t, a1, b1⟩ := k T hT X
  exact ⟨t, X.ldcStringW hexec hown (text := tx) (a := q) hZ.1 hZ.2 (g := F0 m pc ls rest) rfl (by rw [hb]; exact hdg) t a1, b1⟩
theorem W_sxl {α : Type} {v : α} {f : α → Option β} {g : String → Option β} {fr : JFrame} (k : W p l e R s m args below meth c H locs cells slots (PQ G below args s mc ms cv (f v)) fr) : W p l e R s m args below meth c H locs cells slots (PQ G below args s mc ms cv (sx (.inl v) f g)) fr := k
theorem W_sxr {α : Type} {e9 : String} {f : α → Option β} {g : String → Option β} {fr : JFrame} (k : W p l e R s m args below meth c H locs cells slots (PQ G below args s mc ms cv (g e9)) fr) : W p l e R s m args below meth c H locs cells slots (PQ G below args s mc ms cv (sx (α := α) (.inr e9) f g)) fr := k
theorem w_afterS {α : Type} {z1 : α ⊕ String} {f : α → Option β} {g : String → Option β} {vv : α → Option Value} (hr : vx_Run p l e R s m args below meth c H locs cells slots mc1 ms1 (F0 m pc ls st0) rest (w_Q G X a9) (w_X G X) (g_A G)) (hw : w_W G M r s H locs) (hX : X.1 = z1.elim (fun v => .inl (vv v)) .inr) (hc : cells + mc1 ≤ cells1) (hs : slots + ms1 ≤ slots1)
    (kk : ∀ v H1 locs1, z1 = .inl v → w_W G X.2.1 X.2.2 s H1 locs1 → W p l e R s m args below meth c H1 locs1 cells1 slots1 (PQ G below args s mc ms cv (f v)) (F0 m (pc + 3) ls ((vv v).toList ++ rest)))
    (kx : ∀ E H1 locs1 q ce, z1 = .inr E → w_W G X.2.1 X.2.2 s H1 locs1 → H1[q]? = some ce → ce.vm = .none → s.vm.findClass E = some ce.cls → vx_W p l e R s m args below meth c H1 locs1 cells1 slots1 (PQ G below args s mc ms cv (g E)) (F0 m pc ls rest) q) :
    W p l e R s m args below meth c H locs cells slots (PQ G below args s mc ms cv (sx z1 f g)) (F0 m pc ls st0) := by
  cases z1 with
  | inl v =>
    refine w_after hr hw (v := vv v) hX hc hs (fun H1 locs1 hw1 => ?_)
    exact kk v H1 locs1 rfl hw1
  | inr e9 =>
    refine w_afterX hr hw hc hs (fun v H1 locs1 h9 _ => ?_) (fun E H1 locs1 q ce h9 hw1 h1 h2 h3 => ?_)
    · rw [hX] at h9; cases h9
    · rw [hX] at h9; cases h9
      exact kx e9 H1 locs1 q ce rfl hw1 h1 h2 h3
theorem gx_throwW {cls text : String} {names : List String} {ik is ic : Nat} {z : β} (E : wE G p l s m args meth c cc own nL) (hno : ∀ x ∈ c.exceptionTable.toList, False) (hw : w_W G M r s H locs) (F : ThrOK own cls text names ik is ic) (hsize : ls.size = nL)
    (d0 : decode cc pc = .ok (.new ik, 3)) (d3 : decode cc (pc + 3) = .ok (.dup, 1)) (d4 : decode cc (pc + 4) = .ok (.ldc_w is, 3)) (d7 : decode cc (pc + 7) = .ok (.invokespecial ic, 3)) (d10 : decode cc (pc + 10) = .ok (.athrow, 1))
    (hRframes : names.length + 3 < R.frames) (hRlocals : (rest.map fun v => v.category).sum + (13 * (names.length + 1) + 43) ≤ R.locals) (hRcells : cells + 1 ≤ R.cells) (hRslots : slots + 6 ≤ R.slots) (hc : cells + 1 ≤ mc) (hs : slots + 6 ≤ ms) (hz : cv z = (.inr cls, m_new M (0, 0), r)) :
    W p l e R s m args below meth c H locs cells slots (PQ G below args s mc ms cv (some z)) (F0 m pc ls rest) := by
  obtain ⟨h1, h2, h3, h4, ⟨i, h5⟩, h6, h7⟩ := F
  obtain ⟨hx, hb, hts, hown, hml, hTT, hC, hlo, hlk, hst⟩ := E
  have k := vx_throwSW (Qc := w_Q G (cv z)) (XC := w_X G (cv z)) (free := g_A G) (mc := mc) (ms := ms) (R := R) (p := p) (l := l) (e := e) (m := m) (args := args) (below := below) (locs := locs) (cells := cells) (slots := slots) (rest := rest) (ls := ls) (pc := pc) (A := g_A G) hx hb hst hown h1 h2 (hts _ h3) (hts _ h4) (hTT.2.2.1 i _ h5) (fun w hw9 => ?_) h7 hC.2.1 hC.2.2.1 hw.2 (hsize.trans hml.symm) d0 d3 d4 d7 d10 (fun x hx9 => (hno x hx9).elim) hRframes hRlocals hRcells hRslots hlk (fun t hal hz1 ho => ?_) hw.2.2.2 hc hs
  · intro T hT Y
    obtain ⟨t, a, b⟩ := k T hT Y
    exact ⟨t, a, fun z' h' => by cases h'; exact b⟩
  · rcases h6 w hw9 with h | h
    · exact hts w h
    · exact va_Nw.use (w_x_on (List.mem_filter.mp h).2) (hTT.2.1 w h)
  · have hw2 : w_W G (m_new M (0, 0)) r s t.heap locs := hw.new hlo hz1 ho (fun e9 he => absurd (by rw [m_new_kd]) (w_ce_0 he))
    exact ⟨by rw [hz], by rw [hz]; exact hw2.1, hw2.2.F rfl⟩
def StrOK (own : String) (index : Nat) (y : MethodName) : Prop := Cond.methodLink own index y ∈ wTB
end Re
