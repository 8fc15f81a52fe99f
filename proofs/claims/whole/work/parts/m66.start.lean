/-! the world at the law's entry -/
theorem xs_one {y x x' : MethodName} {C : String} {s : State} {args : Array Value} (hy : y.cls ≠ "java/lang/invoke/MethodHandle" ∧ y.cls ≠ "java/lang/invoke/VarHandle") (hxc : x'.cls = y.cls) (hs : (Cond.selects C x x').before args s = true) (hpriv : (Cond.privateMethod y).before args s = true) (hinst : (Cond.instanceMethod y).before args s = true) : (Cond.selects C y y).before args s = true := by
  obtain ⟨c, r0, m0, hc, -, hm0, -, k, hk, hni⟩ := Cond.selects_spec hs
  obtain ⟨mk, methM, hnamed, hmethM, -, -⟩ := Cond.instanceMethod_spec hinst
  have hfound : s.methodFound? y.cls y.name y.desc = some mk := State.methodFound?_of_named hnamed hy
  have h1 := findClass_of_methodNamed hnamed
  have h2 := findClass_of_methodNamed hm0
  rw [hxc] at h2
  have hcls : m0.cls = mk.cls := Option.some.inj (h2.symm.trans h1)
  rw [hcls] at hk
  have hsel : selectMethod {} s.vm c mk = .method mk := selectMethod_private hmethM (Cond.privateMethod_at hpriv mk methM hnamed hmethM)
  simp only [Cond.before, Cond.holds, Cond.value, hc, hfound, hnamed, hsel, hk]
  simp
  exact hni
theorem w_xs_ok {s : State} {args : Array Value} (hts : ∀ w ∈ lw_tbl, w.before args s = true) : ∀ w ∈ wXS, w.before args s = true := by
  have h1 := xs_one (C := RX2) (y := yX7_goOn) (x := ⟨RX7, "takeWord", "(Ljava/lang/String;)Z"⟩) (x' := ⟨RX7, "takeWord", "(Ljava/lang/String;)Z"⟩) (by decide +kernel) rfl (hts _ (List.mem_append_right _ (tbx3 (List.mem_of_getElem? (i := 140) (by decide +kernel))))) (hts _ (List.mem_append_right _ (tbx3 (List.mem_of_getElem? (i := 121) (by decide +kernel))))) (hts _ (List.mem_append_right _ (tbx3 (List.mem_of_getElem? (i := 122) (by decide +kernel)))))
  have h2 := xs_one (C := RX2) (y := yX7_isNumberNext) (x := ⟨RX7, "takeWord", "(Ljava/lang/String;)Z"⟩) (x' := ⟨RX7, "takeWord", "(Ljava/lang/String;)Z"⟩) (by decide +kernel) rfl (hts _ (List.mem_append_right _ (tbx3 (List.mem_of_getElem? (i := 140) (by decide +kernel))))) (hts _ (List.mem_append_right _ (tbx3 (List.mem_of_getElem? (i := 216) (by decide +kernel))))) (hts _ (List.mem_append_right _ (tbx3 (List.mem_of_getElem? (i := 217) (by decide +kernel)))))
  have h3 := xs_one (C := RX9) (y := yX7_goOn) (x := ⟨RX7, "takeWord", "(Ljava/lang/String;)Z"⟩) (x' := ⟨RX7, "takeWord", "(Ljava/lang/String;)Z"⟩) (by decide +kernel) rfl (hts _ (List.mem_append_right _ (tbx3 (List.mem_of_getElem? (i := 141) (by decide +kernel))))) (hts _ (List.mem_append_right _ (tbx3 (List.mem_of_getElem? (i := 121) (by decide +kernel))))) (hts _ (List.mem_append_right _ (tbx3 (List.mem_of_getElem? (i := 122) (by decide +kernel)))))
  have h4 := xs_one (C := RX9) (y := yX7_isNumberNext) (x := ⟨RX7, "takeWord", "(Ljava/lang/String;)Z"⟩) (x' := ⟨RX7, "takeWord", "(Ljava/lang/String;)Z"⟩) (by decide +kernel) rfl (hts _ (List.mem_append_right _ (tbx3 (List.mem_of_getElem? (i := 141) (by decide +kernel))))) (hts _ (List.mem_append_right _ (tbx3 (List.mem_of_getElem? (i := 216) (by decide +kernel))))) (hts _ (List.mem_append_right _ (tbx3 (List.mem_of_getElem? (i := 217) (by decide +kernel)))))
  intro w hw
  simp only [wXS, List.mem_cons, List.not_mem_nil, or_false] at hw
  rcases hw with rfl | rfl | rfl | rfl
  · exact h1
  · exact h2
  · exact h3
  · exact h4
theorem w_tb_ok {s : State} {args : Array Value} (hts : ∀ w ∈ lw_tbl, w.before args s = true) : ∀ w ∈ wTB, w.before args s = true := by
  intro w hw
  rcases List.mem_append.mp (List.mem_filter.mp hw).1 with h | h
  · exact w_xs_ok hts w h
  · exact hts w h
theorem w_kn {s : State} {args : Array Value} (hts : ∀ w ∈ wTB, w.before args s = true) : ∀ k : Nat, ∃ z : ClassId × (Nat → Nat), ∀ q : vw_C, vwCl[k]? = some q → u_Kn s q.1 q.2.1 q.2.2 z.1 z.2 := by
  intro k
  match k with
  | 0 =>
    obtain ⟨c, i, h⟩ := u_known (C := RX0) (T := TX0) (N := 6) (n := 6) hts inX0 (hts _ (tb1 45 (by decide +kernel) (by decide +kernel)))
    exact ⟨(c, i), fun q hq => by cases hq; exact h⟩
  | 1 =>
    obtain ⟨c, i, h⟩ := u_known (C := RX1) (T := TX1) (N := 7) (n := 7) hts inX1 (hts _ (tb4 231 (by decide +kernel) (by decide +kernel)))
    exact ⟨(c, i), fun q hq => by cases hq; exact h⟩
  | 2 =>
    obtain ⟨c, i, h⟩ := u_known (C := RX2) (T := TX2) (N := 7) (n := 7) hts inX2 (hts _ (tb3 229 (by decide +kernel) (by decide +kernel)))
    exact ⟨(c, i), fun q hq => by cases hq; exact h⟩
  | 3 =>
    obtain ⟨c, i, h⟩ := u_known (C := RX3) (T := TX3) (N := 3) (n := 3) hts inX3 (hts _ (tb1 102 (by decide +kernel) (by decide +kernel)))
    exact ⟨(c, i), fun q hq => by cases hq; exact h⟩
  | 4 =>
    obtain ⟨c, i, h⟩ := u_known (C := RX4) (T := TX4) (N := 3) (n := 3) hts inX4 (hts _ (tb1 51 (by decide +kernel) (by decide +kernel)))
    exact ⟨(c, i), fun q hq => by cases hq; exact h⟩
  | 5 =>
    obtain ⟨c, i, h⟩ := u_known (C := RX5) (T := TX5) (N := 10) (n := 10) hts inX5 (hts _ (tb1 118 (by decide +kernel) (by decide +kernel)))
    exact ⟨(c, i), fun q hq => by cases hq; exact h⟩
  | 6 =>
    obtain ⟨c, i, h⟩ := u_known (C := RX6) (T := TX6) (N := 6) (n := 6) hts inX6 (hts _ (tb2 35 (by decide +kernel) (by decide +kernel)))
    exact ⟨(c, i), fun q hq => by cases hq; exact h⟩
  | 7 =>
    obtain ⟨c, i, h⟩ := u_known (C := RX8) (T := TX8) (N := 15) (n := 15) hts inX8 (hts _ (tb1 39 (by decide +kernel) (by decide +kernel)))
    exact ⟨(c, i), fun q hq => by cases hq; exact h⟩
  | 8 =>
    obtain ⟨c, i, h⟩ := u_known (C := RX9) (T := TX9) (N := 7) (n := 7) hts inX9 (hts _ (tb3 79 (by decide +kernel) (by decide +kernel)))
    exact ⟨(c, i), fun q hq => by cases hq; exact h⟩
  | 9 =>
    obtain ⟨c, i, h⟩ := u_known (C := RX10) (T := TX10) (N := 6) (n := 6) hts inX10 (hts _ (tb2 10 (by decide +kernel) (by decide +kernel)))
    exact ⟨(c, i), fun q hq => by cases hq; exact h⟩
  | 10 =>
    obtain ⟨c, i, h⟩ := u_known (C := RX11) (T := TX11) (N := 11) (n := 11) hts inX11 (hts _ (tb1 31 (by decide +kernel) (by decide +kernel)))
    exact ⟨(c, i), fun q hq => by cases hq; exact h⟩
  | 11 =>
    obtain ⟨c, i, h⟩ := u_known (C := RX12) (T := TX12) (N := 27) (n := 27) hts inX12 (hts _ (tb6 234 (by decide +kernel) (by decide +kernel)))
    exact ⟨(c, i), fun q hq => by cases hq; exact h⟩
  | k + 12 => exact ⟨(0, fun _ => 0), fun q hq => by simp at hq⟩
theorem w_arrI {s : State} {args : Array Value} {ty : FieldType} (hty : va_RA s = va_RA s) (h : (Cond.arrayClass ty).before args s = true) (hk : ∀ cA, s.vm.findClass ("[" ++ ty.toString) = some cA → va_RA s cA ty) : ∃ cA : ClassId, ArrOfT s cA ty ∧ va_RA s cA ty := by
  obtain ⟨cA, kA, comp, h1, h2, h3⟩ := Cond.arrayClass_spec h
  exact ⟨cA, fun n z => ⟨fun k h => (by cases h), kA, h2, comp, h3⟩, hk cA h1⟩
theorem w_arrQ {s : State} {args : Array Value} {C : String} (h : (Cond.arrayOver (.object C)).before args s = true) : ∃ cA : ClassId, ArrOfT s cA (.object C) ∧ va_RA s cA (.object C) := by
  obtain ⟨comp, cA, kA, h1, -, h3, h4, h5⟩ := Cond.arrayOver_spec h
  exact ⟨cA, fun n z => ⟨fun k h => (by cases h), kA, h3, comp, h4⟩, kA, comp, h3, h4, h1, h5⟩
/-- what the statement gives of a text -/
def sw (i : Nat) : List Cond :=
  let q := s_tab.getD i ("", 0, "")
  let t := Term.string q.1 q.2.1
  let v := Term.field t "java/lang/String" "value" "[B"
  [.exactly t "java/lang/String", .eq (.field t "java/lang/String" "code\x72" "B") (.int 0), .arrayOf v .byte, .eq (.length v) (.int (Int32.ofNat (s_byt i).length))] ++ (List.range (s_byt i).length).map (fun j => .eq (.elem v (.int (Int32.ofNat j))) (.int ((s_byt i).getD j 0)))
def swP : Cond → Bool
  | .exactly _ _ => true
  | .eq (.field ..) _ => true
  | .arrayOf (.field ..) _ => true
  | .eq (.length (.field ..)) _ => true
  | .eq (.elem ..) _ => true
  | _ => false
def given_all : List Cond := flatC (Jvm.Cond.and given_1 narrow_1)
set_option maxRecDepth 100000 in
theorem sw_all : given_all.filter swP = (List.range 69).flatMap sw := by decide +kernel
theorem sw_in {i : Nat} (hi : i < 69) {w : Cond} (hw : w ∈ sw i) : w ∈ given_all := by
  have h : w ∈ given_all.filter swP := by
    rw [sw_all]
    exact List.mem_flatMap.mpr ⟨i, List.mem_range.mpr hi, hw⟩
  exact (List.mem_filter.mp h).1
def ncP : Cond → Bool
  | .not (.castable a b) => s_nc.contains (a, b)
  | _ => false
set_option maxRecDepth 100000 in
theorem nc_all : ∀ q ∈ s_nc, Cond.not (.castable q.1 q.2) ∈ given_all.filter ncP := by decide +kernel
theorem s_refs : s_tab.map (fun q => Cond.stringRef q.1 q.2.1 q.2.2) = [616, 674, 675, 676, 699, 700, 701, 719, 747, 748, 757, 758, 759, 760, 761, 762, 773, 774, 782, 793, 804, 819, 824, 825, 830, 835, 853, 854, 855, 900, 936, 998, 1019, 1038, 1055, 1068, 1090, 1102, 1187, 1225, 1232, 1284, 1568, 1575, 1576, 1577, 1590, 1591, 1592, 1605, 1614, 1615, 1624, 1625, 1626, 1627, 1628, 1629, 1630, 1631, 1636, 1637, 1642, 1643, 1648, 1657, 1678, 1683, 1684].filterMap (fun i => tables_1[i]?) := by decide +kernel
theorem s_ref_in {i : Nat} {q : String × Nat × String} (h : s_tab[i]? = some q) : Cond.stringRef q.1 q.2.1 q.2.2 ∈ lw_tbl := by
  have h1 : Cond.stringRef q.1 q.2.1 q.2.2 ∈ s_tab.map (fun q => Cond.stringRef q.1 q.2.1 q.2.2) := List.mem_map.mpr ⟨q, List.mem_of_getElem? h, rfl⟩
  rw [s_refs] at h1
  obtain ⟨j, -, hj⟩ := List.mem_filterMap.mp h1
  exact List.mem_append_right _ (List.mem_of_getElem? hj)
theorem s_len : s_tab.length = 69 := rfl
theorem w_str {s : State} {args : Array Value} {A : Nat → Prop} (hg : ∀ w ∈ given_all, w.before args s = true) (hA : ∀ a : Nat, a < s.heap.size → ¬ A a) : ∀ i : Nat, ∃ z : Nat × Nat, ∀ q, s_tab[i]? = some q → (Term.string q.1 q.2.1).eval args s none [] s = some (.ref z.1) ∧ va_O "java/lang/String" z.1 A s s.heap ∧ va_OF "java/lang/String" "code\x72" "B" (.int 0) z.1 A s s.heap ∧ va_OF "java/lang/String" "value" "[B" (.ref z.2) z.1 A s s.heap ∧ va_T .byte z.2 (s_byt i).length (fun j => .int ((s_byt i).getD j 0)) A s s.heap := by
  intro i
  by_cases hi : i < 69
  · have hq : s_tab[i]? = some (s_tab.getD i ("", 0, "")) := by
      rw [List.getD_eq_getElem?_getD, List.getElem?_eq_getElem (by rw [s_len]; exact hi)]
      rfl
    obtain ⟨adK, adV, h1, h2⟩ := vk_Sof (args := args) (s := s) (N := 1) (tm := fun _ => Term.string (s_tab.getD i ("", 0, "")).1 (s_tab.getD i ("", 0, "")).2.1) (len := [(s_byt i).length]) (byt := [s_byt i]) (A := A)
      (fun k hk => by obtain rfl : k = 0 := by omega
                      exact (s_ok i hi).1)
      (fun k hk => hg _ (sw_in hi (by simp [sw])))
      (fun k hk => hg _ (sw_in hi (by simp [sw])))
      (fun k hk => hg _ (sw_in hi (by simp [sw])))
      (fun k hk => by obtain rfl : k = 0 := by omega
                      exact hg _ (sw_in hi (by simp [sw])))
      (fun k hk j hj => by obtain rfl : k = 0 := by omega
                           have hj : j < (s_byt i).length := hj
                           refine hg _ (sw_in hi (List.mem_append_right _ (List.mem_map.mpr ⟨j, List.mem_range.mpr hj, rfl⟩))))
      (fun a b ha hb hab => absurd (by omega) hab) hA
    refine ⟨(adK 0, adV 0), fun q hq2 => ?_⟩
    rw [hq] at hq2
    cases hq2
    obtain ⟨a1, a2, a3, a4⟩ := h1.1 0 (by omega)
    exact ⟨h2 0 (by omega), a1, a2, a3, a4⟩
  · refine ⟨(0, 0), fun q hq => ?_⟩
    have := (List.getElem?_eq_some_iff.mp hq).1
    rw [s_len] at this
    exact absurd this hi
set_option maxHeartbeats 4000000 in
theorem w_entry {p : Program} {s : State} {m : MethodId} {meth : Method} {c : Code} (l : Launch) (hflags : l.flags = flags0) {b L : Nat} {xs : Nat → Int32} (C0 : lw_At p s m meth c b L xs) : ∃ G : wG, g_lo G = s.heap.size ∧ g_on G = false ∧ wE G p l s m #[.ref b] meth c cL_law_ "CheekTownLaw" 7 := by
  obtain ⟨hx, hb, hr, hml, hown, hts0, hX, hbl, hlocks, hgv⟩ := id C0
  have hg : ∀ w ∈ given_all, w.before #[.ref b] s = true := flat_of_before _ hgv
  have hts := w_tb_ok hts0
  have hA : ∀ a : Nat, a < s.heap.size → ¬ s.heap.size ≤ a := fun a h => Nat.not_le.mpr h
  obtain ⟨kn, hkn⟩ := Classical.axiomOfChoice (w_kn hts)
  obtain ⟨st, hst⟩ := Classical.axiomOfChoice (w_str (A := fun q => s.heap.size ≤ q) hg hA)
  obtain ⟨cI, hI⟩ := w_arrI (ty := .int) rfl (hts _ kAC_I) (fun cA h => h)
  obtain ⟨cJ, hJ⟩ := w_arrI (ty := .long) rfl (hts0 _ (List.mem_append_right _ (tbx9 (List.mem_of_getElem? (i := 92) (by decide +kernel))))) (fun cA h => h)
  obtain ⟨cP, hP⟩ := w_arrQ (C := "CheekTown$Person") (hts0 _ (List.mem_append_right _ (tbx1 (List.mem_of_getElem? (i := 100) (by decide +kernel)))))
  obtain ⟨cT, hT⟩ := w_arrQ (C := "CheekTown$Town") (hts0 _ (List.mem_append_right _ (tbx2 (List.mem_of_getElem? (i := 8) (by decide +kernel)))))
  refine ⟨((fun k => (kn k).1, fun k => (kn k).2), (cI, cP, cT, cJ), s.heap.size, (0, false), (fun i => (st i).1), fun i => (st i).2), rfl, rfl, hx, hb, hts, hown, hml, ?_, ?_, Nat.le_refl _, hlocks, ?_⟩
  · refine ⟨⟨fun k q hq => hkn k q hq, fun k q hq => ?_⟩, fun w hw => va_Nw.of (w_x_on (List.mem_filter.mp hw).2) (hts0 w (List.mem_filter.mp hw).1), fun i q hq => vk_R.of (hts0 _ (s_ref_in hq)) (hst i q hq).1, va_AO.of (hts0 _ (List.mem_append_right _ (tbx1 (List.mem_of_getElem? (i := 100) (by decide +kernel))))), va_AO.of (hts0 _ (List.mem_append_right _ (tbx2 (List.mem_of_getElem? (i := 8) (by decide +kernel))))), fun q hq => va_Nc.of (hg _ (List.mem_filter.mp (nc_all q hq)).1)⟩
    match k, hq with
    | 0, hq => cases hq; exact hI
    | 1, hq => cases hq; exact hP
    | 2, hq => cases hq; exact hT
    | 3, hq => cases hq; exact hJ
    | k + 4, hq => simp at hq
  · refine ⟨fun i q hq => (hst i q hq).2, vx_Zqof (hts0 _ (List.mem_append_right _ (tbx4 (List.mem_of_getElem? (i := 164) (by decide +kernel))))) (hts0 _ (List.mem_append_right _ (tbx1 (List.mem_of_getElem? (i := 19) (by decide +kernel))))) (hg _ (by decide +kernel)) hA, vx_Zqof (hts0 _ (List.mem_append_right _ (tbx4 (List.mem_of_getElem? (i := 166) (by decide +kernel))))) (hts0 _ (List.mem_append_right _ (tbx1 (List.mem_of_getElem? (i := 19) (by decide +kernel))))) (hg _ (by decide +kernel)) hA, va_Zof (hts0 _ (List.mem_append_right _ (tbx3 (List.mem_of_getElem? (i := 152) (by decide +kernel))))) (hts0 _ (List.mem_append_right _ (tbx1 (List.mem_of_getElem? (i := 15) (by decide +kernel))))) (va_eqt (hg _ (by decide +kernel))) hA, va_Zqof (hts0 _ (List.mem_append_right _ (tbx3 (List.mem_of_getElem? (i := 168) (by decide +kernel))))) (hts0 _ (List.mem_append_right _ (tbx1 (List.mem_of_getElem? (i := 17) (by decide +kernel))))) (hg _ (by decide +kernel)) hA⟩
  · unfold Launch.stackTraces
    rw [hflags]
    decide +kernel
