section Rz
variable {p : Program} {l : Launch} {e : Env} {R : Room} {s : State} {m : MethodId} {args : Array Value} {below : List Frame} {meth : Method} {c : Code} {H : Heap} {locs : List Loc} {cells slots : Nat} {Q : State → Prop}
variable {cc : ByteArray} {pc : Nat} {ls : Array Slot} {rest : List Value} {G : wG} {own : String} {nL mc ms : Nat} {M : Mem} {r : Rho} {β : Type} {cv : β → Out}
/-! branches -/
theorem cx_icmp_eq {x y : Int32} {off : Int} {tgt : Nat} {A B : Option β} (E : wE G p l s m args meth c cc own nL) (hdg : decode cc pc = .ok (.if_icmp .eq off, 3)) (ht : (pc : Int) + off = (tgt : Int))
    (kt : x = y → W p l e R s m args below meth c H locs cells slots (PQ G below args s mc ms cv A) (F0 m tgt ls rest)) (kf : ¬ x = y → W p l e R s m args below meth c H locs cells slots (PQ G below args s mc ms cv B) (F0 m (pc + 3) ls rest)) : W p l e R s m args below meth c H locs cells slots (PQ G below args s mc ms cv (if x = y then A else B)) (F0 m pc ls (.int y :: .int x :: rest)) :=
  lv_icmp_eq E.1 E.2.1 hdg ht (fun h => by rw [if_pos h]; exact kt h) (fun h => by rw [if_neg h]; exact kf h)
theorem cx_icmp_ne {x y : Int32} {off : Int} {tgt : Nat} {A B : Option β} (E : wE G p l s m args meth c cc own nL) (hdg : decode cc pc = .ok (.if_icmp .ne off, 3)) (ht : (pc : Int) + off = (tgt : Int))
    (kt : ¬ x = y → W p l e R s m args below meth c H locs cells slots (PQ G below args s mc ms cv A) (F0 m tgt ls rest)) (kf : x = y → W p l e R s m args below meth c H locs cells slots (PQ G below args s mc ms cv B) (F0 m (pc + 3) ls rest)) : W p l e R s m args below meth c H locs cells slots (PQ G below args s mc ms cv (if x = y then B else A)) (F0 m pc ls (.int y :: .int x :: rest)) :=
  lv_icmp_ne E.1 E.2.1 hdg ht (fun h => by rw [if_neg h]; exact kt h) (fun h => by rw [if_pos h]; exact kf h)
theorem cx_icmp_lt {x y : Int32} {off : Int} {tgt : Nat} {A B : Option β} (E : wE G p l s m args meth c cc own nL) (hdg : decode cc pc = .ok (.if_icmp .lt off, 3)) (ht : (pc : Int) + off = (tgt : Int))
    (kt : x < y → W p l e R s m args below meth c H locs cells slots (PQ G below args s mc ms cv A) (F0 m tgt ls rest)) (kf : ¬ x < y → W p l e R s m args below meth c H locs cells slots (PQ G below args s mc ms cv B) (F0 m (pc + 3) ls rest)) : W p l e R s m args below meth c H locs cells slots (PQ G below args s mc ms cv (if x < y then A else B)) (F0 m pc ls (.int y :: .int x :: rest)) :=
  lv_icmp_lt E.1 E.2.1 hdg ht (fun h => by rw [if_pos h]; exact kt h) (fun h => by rw [if_neg h]; exact kf h)
theorem cx_icmp_ge {x y : Int32} {off : Int} {tgt : Nat} {A B : Option β} (E : wE G p l s m args meth c cc own nL) (hdg : decode cc pc = .ok (.if_icmp .ge off, 3)) (ht : (pc : Int) + off = (tgt : Int))
    (kt : y ≤ x → W p l e R s m args below meth c H locs cells slots (PQ G below args s mc ms cv A) (F0 m tgt ls rest)) (kf : ¬ y ≤ x → W p l e R s m args below meth c H locs cells slots (PQ G below args s mc ms cv B) (F0 m (pc + 3) ls rest)) : W p l e R s m args below meth c H locs cells slots (PQ G below args s mc ms cv (if y ≤ x then A else B)) (F0 m pc ls (.int y :: .int x :: rest)) :=
  lv_icmp_ge E.1 E.2.1 hdg ht (fun h => by rw [if_pos h]; exact kt h) (fun h => by rw [if_neg h]; exact kf h)
theorem cx_icmp_gt {x y : Int32} {off : Int} {tgt : Nat} {A B : Option β} (E : wE G p l s m args meth c cc own nL) (hdg : decode cc pc = .ok (.if_icmp .gt off, 3)) (ht : (pc : Int) + off = (tgt : Int))
    (kt : y < x → W p l e R s m args below meth c H locs cells slots (PQ G below args s mc ms cv A) (F0 m tgt ls rest)) (kf : ¬ y < x → W p l e R s m args below meth c H locs cells slots (PQ G below args s mc ms cv B) (F0 m (pc + 3) ls rest)) : W p l e R s m args below meth c H locs cells slots (PQ G below args s mc ms cv (if y < x then A else B)) (F0 m pc ls (.int y :: .int x :: rest)) :=
  lv_icmp_gt E.1 E.2.1 hdg ht (fun h => by rw [if_pos h]; exact kt h) (fun h => by rw [if_neg h]; exact kf h)
theorem cx_icmp_le {x y : Int32} {off : Int} {tgt : Nat} {A B : Option β} (E : wE G p l s m args meth c cc own nL) (hdg : decode cc pc = .ok (.if_icmp .le off, 3)) (ht : (pc : Int) + off = (tgt : Int))
    (kt : x ≤ y → W p l e R s m args below meth c H locs cells slots (PQ G below args s mc ms cv A) (F0 m tgt ls rest)) (kf : ¬ x ≤ y → W p l e R s m args below meth c H locs cells slots (PQ G below args s mc ms cv B) (F0 m (pc + 3) ls rest)) : W p l e R s m args below meth c H locs cells slots (PQ G below args s mc ms cv (if x ≤ y then A else B)) (F0 m pc ls (.int y :: .int x :: rest)) :=
  lv_icmp_le E.1 E.2.1 hdg ht (fun h => by rw [if_pos h]; exact kt h) (fun h => by rw [if_neg h]; exact kf h)
theorem cx_if_eq {x : Int32} {off : Int} {tgt : Nat} {A B : Option β} (E : wE G p l s m args meth c cc own nL) (hdg : decode cc pc = .ok (.ifCond .eq off, 3)) (ht : (pc : Int) + off = (tgt : Int))
    (kt : x = 0 → W p l e R s m args below meth c H locs cells slots (PQ G below args s mc ms cv A) (F0 m tgt ls rest)) (kf : ¬ x = 0 → W p l e R s m args below meth c H locs cells slots (PQ G below args s mc ms cv B) (F0 m (pc + 3) ls rest)) : W p l e R s m args below meth c H locs cells slots (PQ G below args s mc ms cv (if x = 0 then A else B)) (F0 m pc ls (.int x :: rest)) :=
  lv_if_eq E.1 E.2.1 hdg ht (fun h => by rw [if_pos h]; exact kt h) (fun h => by rw [if_neg h]; exact kf h)
theorem cx_if_ne {x : Int32} {off : Int} {tgt : Nat} {A B : Option β} (E : wE G p l s m args meth c cc own nL) (hdg : decode cc pc = .ok (.ifCond .ne off, 3)) (ht : (pc : Int) + off = (tgt : Int))
    (kt : ¬ x = 0 → W p l e R s m args below meth c H locs cells slots (PQ G below args s mc ms cv A) (F0 m tgt ls rest)) (kf : x = 0 → W p l e R s m args below meth c H locs cells slots (PQ G below args s mc ms cv B) (F0 m (pc + 3) ls rest)) : W p l e R s m args below meth c H locs cells slots (PQ G below args s mc ms cv (if x = 0 then B else A)) (F0 m pc ls (.int x :: rest)) :=
  lv_if_ne E.1 E.2.1 hdg ht (fun h => by rw [if_neg h]; exact kt h) (fun h => by rw [if_pos h]; exact kf h)
theorem cx_if_lt {x : Int32} {off : Int} {tgt : Nat} {A B : Option β} (E : wE G p l s m args meth c cc own nL) (hdg : decode cc pc = .ok (.ifCond .lt off, 3)) (ht : (pc : Int) + off = (tgt : Int))
    (kt : x < 0 → W p l e R s m args below meth c H locs cells slots (PQ G below args s mc ms cv A) (F0 m tgt ls rest)) (kf : ¬ x < 0 → W p l e R s m args below meth c H locs cells slots (PQ G below args s mc ms cv B) (F0 m (pc + 3) ls rest)) : W p l e R s m args below meth c H locs cells slots (PQ G below args s mc ms cv (if x < 0 then A else B)) (F0 m pc ls (.int x :: rest)) :=
  lv_if_lt E.1 E.2.1 hdg ht (fun h => by rw [if_pos h]; exact kt h) (fun h => by rw [if_neg h]; exact kf h)
theorem cx_if_ge {x : Int32} {off : Int} {tgt : Nat} {A B : Option β} (E : wE G p l s m args meth c cc own nL) (hdg : decode cc pc = .ok (.ifCond .ge off, 3)) (ht : (pc : Int) + off = (tgt : Int))
    (kt : 0 ≤ x → W p l e R s m args below meth c H locs cells slots (PQ G below args s mc ms cv A) (F0 m tgt ls rest)) (kf : ¬ 0 ≤ x → W p l e R s m args below meth c H locs cells slots (PQ G below args s mc ms cv B) (F0 m (pc + 3) ls rest)) : W p l e R s m args below meth c H locs cells slots (PQ G below args s mc ms cv (if 0 ≤ x then A else B)) (F0 m pc ls (.int x :: rest)) :=
  lv_if_ge E.1 E.2.1 hdg ht (fun h => by rw [if_pos h]; exact kt h) (fun h => by rw [if_neg h]; exact kf h)
theorem cx_if_gt {x : Int32} {off : Int} {tgt : Nat} {A B : Option β} (E : wE G p l s m args meth c cc own nL) (hdg : decode cc pc = .ok (.ifCond .gt off, 3)) (ht : (pc : Int) + off = (tgt : Int))
    (kt : 0 < x → W p l e R s m args below meth c H locs cells slots (PQ G below args s mc ms cv A) (F0 m tgt ls rest)) (kf : ¬ 0 < x → W p l e R s m args below meth c H locs cells slots (PQ G below args s mc ms cv B) (F0 m (pc + 3) ls rest)) : W p l e R s m args below meth c H locs cells slots (PQ G below args s mc ms cv (if 0 < x then A else B)) (F0 m pc ls (.int x :: rest)) :=
  lv_if_gt E.1 E.2.1 hdg ht (fun h => by rw [if_pos h]; exact kt h) (fun h => by rw [if_neg h]; exact kf h)
theorem cx_if_le {x : Int32} {off : Int} {tgt : Nat} {A B : Option β} (E : wE G p l s m args meth c cc own nL) (hdg : decode cc pc = .ok (.ifCond .le off, 3)) (ht : (pc : Int) + off = (tgt : Int))
    (kt : x ≤ 0 → W p l e R s m args below meth c H locs cells slots (PQ G below args s mc ms cv A) (F0 m tgt ls rest)) (kf : ¬ x ≤ 0 → W p l e R s m args below meth c H locs cells slots (PQ G below args s mc ms cv B) (F0 m (pc + 3) ls rest)) : W p l e R s m args below meth c H locs cells slots (PQ G below args s mc ms cv (if x ≤ 0 then A else B)) (F0 m pc ls (.int x :: rest)) :=
  lv_if_le E.1 E.2.1 hdg ht (fun h => by rw [if_pos h]; exact kt h) (fun h => by rw [if_neg h]; exact kf h)
theorem cx_nonnull {v : Option Nat} {off : Int} {tgt : Nat} {A B : Option β} (E : wE G p l s m args meth c cc own nL) (hdg : decode cc pc = .ok (.ifnonnull off, 3)) (ht : (pc : Int) + off = (tgt : Int))
    (kt : v.isSome = true → W p l e R s m args below meth c H locs cells slots (PQ G below args s mc ms cv A) (F0 m tgt ls rest)) (kf : ¬ v.isSome = true → W p l e R s m args below meth c H locs cells slots (PQ G below args s mc ms cv B) (F0 m (pc + 3) ls rest)) : W p l e R s m args below meth c H locs cells slots (PQ G below args s mc ms cv (if v.isSome = true then A else B)) (F0 m pc ls (va_rf v :: rest)) := by
  cases v with
  | some x =>
    rw [if_pos (show (some x).isSome = true from rfl)]
    exact lv_ifnonnull E.1 E.2.1 hdg ht (kt rfl)
  | none =>
    rw [if_neg (by simp)]
    exact lv_ifnonnullN E.1 E.2.1 hdg (kf (by simp))
/-- one row of a table -/
theorem cx_tab {x : Int32} {dflt lo hi : Int} {offs : Array Int} {len : Nat} (kI : Int32) {off : Int} {tgt : Nat} {A B : Option β} (E : wE G p l s m args meth c cc own nL) (hdg : decode cc pc = .ok (.tableswitch dflt lo hi offs, len)) (h1 : ¬ kI.toInt < lo) (h2 : ¬ hi < kI.toInt) (ho : offs[(kI.toInt - lo).toNat]? = some off) (ht : (pc : Int) + off = (tgt : Int))
    (kt : x = kI → W p l e R s m args below meth c H locs cells slots (PQ G below args s mc ms cv A) (F0 m tgt ls rest)) (kf : x.toInt ≠ kI.toInt → W p l e R s m args below meth c H locs cells slots (PQ G below args s mc ms cv B) (F0 m pc ls (.int x :: rest))) : W p l e R s m args below meth c H locs cells slots (PQ G below args s mc ms cv (if x = kI then A else B)) (F0 m pc ls (.int x :: rest)) := by
  by_cases h : x = kI
  · rw [if_pos h]
    subst h
    exact lv_tableIn E.1 E.2.1 hdg h1 h2 ho ht (kt rfl)
  · rw [if_neg h]
    exact kf (fun h9 => h (Int32.toInt_inj.mp h9))
/-! ends -/
theorem W_some {z : β} {g : JFrame} (hc : cells ≤ mc) (hs : slots ≤ ms) (k : W p l e R s m args below meth c H locs mc ms (vx_MQ below (w_Q G (cv z)) (w_X G (cv z)) args s mc ms (g_A G)) g) : W p l e R s m args below meth c H locs cells slots (PQ G below args s mc ms cv (some z)) g := by
  refine W.widen hc hs ?_
  intro T hT X
  obtain ⟨t, a, b⟩ := k T hT X
  exact ⟨t, a, fun z' h' => by cases h'; exact b⟩
theorem p_iret {z : β} {v : Int32} (E : wE G p l s m args meth c cc own nL) (hw : w_W G M r s H locs) (hr : meth.sig.returnType = some .int) (hc : cells ≤ mc) (hs : slots ≤ ms) (hz : cv z = (.inl (some (.int v)), M, r)) (hdg : decode cc pc = .ok (.ireturn, 1)) : W p l e R s m args below meth c H locs cells slots (PQ G below args s mc ms cv (some z)) (F0 m pc ls [.int v]) :=
  W_some hc hs (vx_ret (W.iret (Qc := w_Q G (cv z)) (free := g_A G) E.1 E.2.1 hr (fun t ht _ => ⟨⟨_, by rw [hz], rfl⟩, by rw [hz, ht]; exact hw.1, hw.2.F ht⟩) hw.2.2.2 hdg E.2.2.2.2.2.2.2.2.1))
theorem p_zret {z : β} {v : Int32} (E : wE G p l s m args meth c cc own nL) (hw : w_W G M r s H locs) (hr : meth.sig.returnType = some .boolean) (hv : v = 0 ∨ v = 1) (hc : cells ≤ mc) (hs : slots ≤ ms) (hz : cv z = (.inl (some (.int v)), M, r)) (hdg : decode cc pc = .ok (.ireturn, 1)) : W p l e R s m args below meth c H locs cells slots (PQ G below args s mc ms cv (some z)) (F0 m pc ls [.int v]) :=
  W_some hc hs (vx_ret (W.zret (Qc := w_Q G (cv z)) (free := g_A G) E.1 E.2.1 hr (by rcases hv with rfl | rfl <;> rfl) (fun t ht _ => ⟨⟨_, by rw [hz], rfl⟩, by rw [hz, ht]; exact hw.1, hw.2.F ht⟩) hw.2.2.2 hdg E.2.2.2.2.2.2.2.2.1))
theorem p_lret {z : β} {v : Int64} (E : wE G p l s m args meth c cc own nL) (hw : w_W G M r s H locs) (hr : meth.sig.returnType = some .long) (hc : cells ≤ mc) (hs : slots ≤ ms) (hz : cv z = (.inl (some (.long v)), M, r)) (hdg : decode cc pc = .ok (.lreturn, 1)) : W p l e R s m args below meth c H locs cells slots (PQ G below args s mc ms cv (some z)) (F0 m pc ls [.long v]) :=
  W_some hc hs (vx_ret (W.lret (Qc := w_Q G (cv z)) (free := g_A G) E.1 E.2.1 hr (fun t ht _ => ⟨⟨_, by rw [hz], rfl⟩, by rw [hz, ht]; exact hw.1, hw.2.F ht⟩) hw.2.2.2 hdg E.2.2.2.2.2.2.2.2.1))
theorem p_vret {z : β} (E : wE G p l s m args meth c cc own nL) (hw : w_W G M r s H locs) (hr : meth.sig.returnType = none) (hc : cells ≤ mc) (hs : slots ≤ ms) (hz : cv z = (.inl none, M, r)) (hdg : decode cc pc = .ok (.return_, 1)) : W p l e R s m args below meth c H locs cells slots (PQ G below args s mc ms cv (some z)) (F0 m pc ls []) :=
  W_some hc hs (vx_ret (W.vret (Qc := w_Q G (cv z)) (free := g_A G) E.1 E.2.1 hr (fun t ht _ => ⟨⟨_, by rw [hz], rfl⟩, by rw [hz, ht]; exact hw.1, hw.2.F ht⟩) hw.2.2.2 hdg E.2.2.2.2.2.2.2.2.1))
/-- a boolean answer is 0 or 1 -/
def zg (v : Int32) : Option Int32 := if v = 0 ∨ v = 1 then some v else none
theorem zg_ok {v w : Int32} (h : zg v = some w) : w = v ∧ (w = 0 ∨ w = 1) := by
  unfold zg at h
  split at h
  · next h9 => cases h; exact ⟨rfl, h9⟩
  · cases h
/-! the model's cells -/
theorem r_len_off {j : Nat} (h : w_rk 11 j = true) : 0 < r_off j ∧ r_off j < 15 := by
  have h2 : j ∈ [1, 2, 4, 5, 7, 14, 18, 19, 20, 21, 22, 23, 24, 25] := by simpa [w_rk, w_rf] using h
  simp only [List.mem_cons, List.not_mem_nil, or_false] at h2
  rcases h2 with rfl | rfl | rfl | rfl | rfl | rfl | rfl | rfl | rfl | rfl | rfl | rfl | rfl | rfl <;> exact ⟨by decide, by decide⟩
theorem r_off_inj {i j : Nat} (hi : 0 < r_off i) (h : r_off i = r_off j) : i = j := by
  unfold r_off at h hi
  split at h <;> split at h <;> simp_all
theorem rx_fs (E : wE G p l s m args meth c cc own nL) (hw : w_W G M r s H locs) (on : g_on G = true) : va_at (g_D G) vwCl (g_r G, .inr (11, w_fs r.1 (fun j => some (g_r G + r_off j)) 11)) H := (hw.1.2.2.2 on).2.2.2.1
theorem rx_get {index j : Nat} {v : Value} (E : wE G p l s m args meth c cc own nL) (hw : w_W G M r s H locs) (on : g_on G = true) (F : FldOK own index 11 j) (hv : w_fv r.1 (fun j => some (g_r G + r_off j)) 11 j = v) (hdg : decode cc pc = .ok (.getfield index, 3))
    (kk : W p l e R s m args below meth c H locs cells slots Q (F0 m (pc + 3) ls (v :: rest))) : W p l e R s m args below meth c H locs cells slots Q (F0 m pc ls (.ref (g_r G) :: rest)) := by
  have hat := rx_fs E hw on
  obtain ⟨hx, hb, hts, hown, -, hT, -⟩ := E
  obtain ⟨C, T, N, ty, ref, hci, hcl, hN, hj, hin, -, -, hl, hsame⟩ := F
  refine va_get (D := g_D G) (C := C) (T := T) (N := N) (ref := ref) hx hb hts hin hown hT.1 (w_1 hat) 0 rfl hcl j hj (hts _ hl) (fun x hx' => ?_) (v := v) ?_ hdg kk
  · rcases hsame with rfl | h
    · exact hx'
    · exact u_same (hts _ h) x hx'
  · rw [← hv]; exact w_fs_at (hN ▸ hj)
theorem rx_getI {index j : Nat} (E : wE G p l s m args meth c cc own nL) (hw : w_W G M r s H locs) (on : g_on G = true) (F : FldOK own index 11 j) (hr : w_rk 11 j = false) (hdg : decode cc pc = .ok (.getfield index, 3))
    (kk : W p l e R s m args below meth c H locs cells slots Q (F0 m (pc + 3) ls (.int (r.1 j) :: rest))) : W p l e R s m args below meth c H locs cells slots Q (F0 m pc ls (.ref (g_r G) :: rest)) :=
  rx_get E hw on F (by simp [w_fv, hr]) hdg kk
theorem rx_getA {index j : Nat} (E : wE G p l s m args meth c cc own nL) (hw : w_W G M r s H locs) (on : g_on G = true) (F : FldOK own index 11 j) (hr : w_rk 11 j = true) (hdg : decode cc pc = .ok (.getfield index, 3))
    (kk : W p l e R s m args below meth c H locs cells slots Q (F0 m (pc + 3) ls (.ref (g_r G + r_off j) :: rest))) : W p l e R s m args below meth c H locs cells slots Q (F0 m pc ls (.ref (g_r G) :: rest)) :=
  rx_get E hw on F (by simp [w_fv, hr, va_rf]) hdg kk
/-- a change of one of the model's cells -/
theorem w_W.changeR {r' : Rho} {H1 : Heap} {L : List Loc} {a : Nat} (hw : w_W G M r s H locs) (on : g_on G = true) (ha : ∃ k, k < 15 ∧ a = g_r G + k) (hz : H1.size = H.size) (ho : ∀ q : Nat, q ≠ a → H1[q]? = H[q]?) (hl : ∀ q ∈ L, q.base = a) (hP : r_P G r' H1) : w_W G M r' s H1 (locs ++ L) := by
  obtain ⟨⟨h1, h2, h3, h4⟩, hS⟩ := hw
  obtain ⟨g1, g2, g3, g4⟩ := h4 on
  obtain ⟨k0, hk0, rfl⟩ := ha
  have hk : ∀ b e, w_ce G M b = some e → b ≠ g_r G + k0 := fun b e hb he => w_ce_0 hb (by rw [he]; exact g3 k0 hk0)
  refine ⟨⟨by rw [hz, h1], h2, fun b e hb => (h3 b e hb).kept (ho b (hk b e hb)), fun _ => ⟨g1, g2, g3, hP⟩⟩, Nat.le_trans hS.1 (by omega), fun q q1 q2 => ?_, fun q hq => ?_⟩
  · rw [ho q (fun he => q2 (by show g_lo G ≤ q; omega))]
    exact hS.2.1 q q1 q2
  · rcases List.mem_append.mp hq with h | h
    · exact hS.2.2 q h
    · show g_lo G ≤ q.base
      rw [hl q h]; omega
theorem rx_put0 {index j : Nat} {v : Int32} {ty : FieldType} (E : wE G p l s m args meth c cc own nL) (hw : w_W G M r s H locs) (on : g_on G = true) (F : FldOK own index 11 j) (hr : w_rk 11 j = false) (hT : FldTy 11 j ty false) (hn : narrow ty (.int v) = .int v) (hfit : fits ty (.int v) = true) (hdg : decode cc pc = .ok (.putfield index, 3))
    (kk : ∀ H1 locs1, w_W G M (r_set r j v) s H1 locs1 → W p l e R s m args below meth c H1 locs1 cells slots Q (F0 m (pc + 3) ls rest)) : W p l e R s m args below meth c H locs cells slots Q (F0 m pc ls (.int v :: .ref (g_r G) :: rest)) := by
  refine fld_put E (rx_fs E hw on) F w_fs_len hT hn hfit hdg fun H1 L h1 h2 h3 h4 => kk H1 _ ?_
  refine hw.changeR on ⟨0, by omega, rfl⟩ h2 h3 h4 ⟨?_, fun j' hj' => ?_⟩
  · have e9 : w_fs (r_set r j v).1 (fun j => some (g_r G + r_off j)) 11 = (w_fs r.1 (fun j => some (g_r G + r_off j)) 11).set j (.int v) := by
      rw [w_fs_setI hr]; rfl
    rw [e9]; exact h1
  · have h9 := (hw.1.2.2.2 on).2.2.2.2 j' hj'
    exact h9.kept (h3 _ (by omega))
theorem rx_putI {index j : Nat} {v : Int32} (E : wE G p l s m args meth c cc own nL) (hw : w_W G M r s H locs) (on : g_on G = true) (F : FldOK own index 11 j) (hr : w_rk 11 j = false) (hT : FldTy 11 j .int false) (hdg : decode cc pc = .ok (.putfield index, 3))
    (kk : ∀ H1 locs1, w_W G M (r_set r j v) s H1 locs1 → W p l e R s m args below meth c H1 locs1 cells slots Q (F0 m (pc + 3) ls rest)) : W p l e R s m args below meth c H locs cells slots Q (F0 m pc ls (.int v :: .ref (g_r G) :: rest)) :=
  rx_put0 E hw on F hr hT rfl rfl hdg kk
def rpZ (r : Rho) (j : Nat) (v : Int32) : Option Rho := if v = 0 ∨ v = 1 then some (r_set r j v) else none
theorem rx_putZ {index j : Nat} {v : Int32} {k : Rho → Option β} (E : wE G p l s m args meth c cc own nL) (hw : w_W G M r s H locs) (on : g_on G = true) (F : FldOK own index 11 j) (hr : w_rk 11 j = false) (hT : FldTy 11 j .boolean false) (hdg : decode cc pc = .ok (.putfield index, 3))
    (kk : ∀ r1 H1 locs1, w_W G M r1 s H1 locs1 → W p l e R s m args below meth c H1 locs1 cells slots (PQ G below args s mc ms cv (k r1)) (F0 m (pc + 3) ls rest)) : W p l e R s m args below meth c H locs cells slots (PQ G below args s mc ms cv ((rpZ r j v).bind k)) (F0 m pc ls (.int v :: .ref (g_r G) :: rest)) := by
  refine W_bind fun r1 hv => ?_
  unfold rpZ at hv
  split at hv
  · next h9 =>
    cases hv
    exact rx_put0 E hw on F hr hT (by rcases h9 with rfl | rfl <;> rfl) (by rcases h9 with rfl | rfl <;> rfl) hdg (kk _)
  · cases hv
def rld (r : Rho) (j : Nat) (i : Int32) : Option Int32 := if inR i (r_len j) = true then some (r.2 j i.toNatClampNeg) else none
def rst (r : Rho) (j : Nat) (i v : Int32) : Option Rho := if inR i (r_len j) = true then some (r_st r j i.toNatClampNeg v) else none
theorem rx_iald {j : Nat} {i : Int32} {k : Int32 → Option β} (E : wE G p l s m args meth c cc own nL) (hw : w_W G M r s H locs) (on : g_on G = true) (hr : w_rk 11 j = true) (hdg : decode cc pc = .ok (.iaload, 1))
    (kk : ∀ v, W p l e R s m args below meth c H locs cells slots (PQ G below args s mc ms cv (k v)) (F0 m (pc + 1) ls (.int v :: rest))) : W p l e R s m args below meth c H locs cells slots (PQ G below args s mc ms cv ((rld r j i).bind k)) (F0 m pc ls (.int i :: .ref (g_r G + r_off j) :: rest)) := by
  refine W_bind fun v hv => ?_
  unfold rld at hv
  split at hv
  · next h9 =>
    cases hv
    obtain ⟨hx, hb, -, -, -, hT, -⟩ := E
    exact va_iald (D := g_D G) (cl := vwCl) hx hb hT.1 (w_1 ((hw.1.2.2.2 on).2.2.2.2 j (r_len_off hr).1)) 0 0 rfl rfl (inR_in h9) hdg (kk _)
  · cases hv
theorem rx_iast {j : Nat} {i v : Int32} {k : Rho → Option β} (E : wE G p l s m args meth c cc own nL) (hw : w_W G M r s H locs) (on : g_on G = true) (hr : w_rk 11 j = true) (hdg : decode cc pc = .ok (.iastore, 1))
    (kk : ∀ r1 H1 locs1, w_W G M r1 s H1 locs1 → W p l e R s m args below meth c H1 locs1 cells slots (PQ G below args s mc ms cv (k r1)) (F0 m (pc + 1) ls rest)) : W p l e R s m args below meth c H locs cells slots (PQ G below args s mc ms cv ((rst r j i v).bind k)) (F0 m pc ls (.int v :: .int i :: .ref (g_r G + r_off j) :: rest)) := by
  refine W_bind fun r1 hv => ?_
  unfold rst at hv
  split at hv
  · next h9 =>
    cases hv
    obtain ⟨hx, hb, -, -, -, hT, -⟩ := E
    have hin := inR_in h9
    have ho := r_len_off hr
    have hat : H[g_r G + r_off j]? = some (vp_cell (g_I G) (r_len j, .inl (r.2 j))) := (hw.1.2.2.2 on).2.2.2.2 j ho.1
    refine W.iast hx hb hat ((hT.1.2 0 _ rfl).1 _ (fun q => .int (r.2 j q))) (fun q => by cases q) (by show ¬ (i < 0 ∨ (arrV _ _ _).slots.size ≤ _); rw [arrV_size]; exact hin) rfl rfl hdg fun H1 e1 e2 e3 => ?_
    refine kk _ H1 _ (hw.changeR on ⟨r_off j, ho.2, rfl⟩ e2 e3 (by simp) ⟨?_, fun j' hj' => ?_⟩)
    · exact (hw.1.2.2.2 on).2.2.2.1.kept (e3 _ (fun he => by have h8 : g_r G = g_r G + r_off j := he; omega))
    · by_cases hjj : j' = j
      · subst hjj
        show H1[g_r G + r_off j']? = some (vp_cell _ _)
        rw [e1, vp_cell_i, vp_cell_i, arrV_store]
        congr 2
        funext q
        show _ = Value.int (up2 r.2 j' i.toNatClampNeg v j' q)
        by_cases hq : q = i.toNatClampNeg
        · subst hq; simp [updV, up2]
        · simp [updV, up2, hq]
      · have h7 := (hw.1.2.2.2 on).2.2.2.2 j' hj'
        have e7 : (r_st r j i.toNatClampNeg v).2 j' = r.2 j' := by
          funext q
          show up2 r.2 j i.toNatClampNeg v j' q = _
          simp [up2, hjj]
        rw [e7]
        exact h7.kept (e3 _ (fun he => hjj (r_off_inj hj' (by have h8 : g_r G + r_off j' = g_r G + r_off j := he; omega))))
  · cases hv
end Rz
