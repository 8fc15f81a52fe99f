/-! rows of the law's own body -/
theorem tab_step {x k : Int} (h : x < 0 ∨ k ≤ x) (hn : x ≠ k) : x < 0 ∨ k + 1 ≤ x := by omega
section Rl
variable {p : Program} {l : Launch} {e : Env} {R : Room} {s : State} {m : MethodId} {args : Array Value} {below : List Frame} {meth : Method} {c : Code} {H : Heap} {locs : List Loc} {cells slots : Nat} {Q : State → Prop}
variable {cc : ByteArray} {pc : Nat} {ls : Array Slot} {rest : List Value} {G : wG} {own : String} {nL mc ms : Nat} {M : Mem} {r : Rho} {β : Type} {cv : β → Out}
theorem gx_sld {b L : Nat} {xs : Nat → Int32} {i : Int32} {k : Int32 → Option β} (E : wE G p l s m args meth c cc own nL) (hw : w_W G M r s H locs) (hX : va_X b L xs s s.heap) (hbl : b < s.heap.size) (hbA : ¬ g_A G b) (hdg : decode cc pc = .ok (.iaload, 1))
    (kk : ∀ v, W p l e R s m args below meth c H locs cells slots (PQ G below args s mc ms cv (k v)) (F0 m (pc + 1) ls (.int v :: rest))) : W p l e R s m args below meth c H locs cells slots (PQ G below args s mc ms cv ((sld xs L i).bind k)) (F0 m pc ls (.int i :: .ref b :: rest)) := by
  refine W_bind (fun v h => ?_)
  unfold sld at h
  split at h
  · next h9 =>
    cases h
    exact va_sld E.1 E.2.1 hX hbl hbA hw.2 (inR_in h9) hdg (kk _)
  · cases h
theorem gx_flag {v : Int32} (E : wE G p l s m args meth c cc own nL) (d0 : decode cc pc = .ok (.ifCond .eq 7, 3)) (d3 : decode cc (pc + 3) = .ok (.iconst 1, 1)) (d4 : decode cc (pc + 4) = .ok (.goto 4, 3)) (d7 : decode cc (pc + 7) = .ok (.iconst 0, 1))
    (kk : W p l e R s m args below meth c H locs cells slots Q (F0 m (pc + 8) ls (.int (bz v) :: rest))) : W p l e R s m args below meth c H locs cells slots Q (F0 m pc ls (.int v :: rest)) := by
  refine lv_if_eq (tgt := pc + 7) E.1 E.2.1 d0 (by omega) (fun h => ?_) (fun h => ?_)
  · refine lv_iconst (v := 0) E.1 E.2.1 d7 (by decide) ?_
    unfold bz at kk
    rw [if_pos h] at kk
    exact kk
  · refine lv_iconst (v := 1) E.1 E.2.1 d3 (by decide) ?_
    refine lv_goto (tgt := pc + 8) E.1 E.2.1 d4 (by omega) ?_
    unfold bz at kk
    rw [if_neg h] at kk
    exact kk
theorem gx_flagL {v : Int32} (E : wE G p l s m args meth c cc own nL) (d0 : decode cc pc = .ok (.ifCond .eq 7, 3)) (d3 : decode cc (pc + 3) = .ok (.lconst 1, 1)) (d4 : decode cc (pc + 4) = .ok (.goto 4, 3)) (d7 : decode cc (pc + 7) = .ok (.lconst 0, 1))
    (kk : W p l e R s m args below meth c H locs cells slots Q (F0 m (pc + 8) ls (.long (bzL v) :: rest))) : W p l e R s m args below meth c H locs cells slots Q (F0 m pc ls (.int v :: rest)) := by
  refine lv_if_eq (tgt := pc + 7) E.1 E.2.1 d0 (by omega) (fun h => ?_) (fun h => ?_)
  · refine lv_lconst (v := 0) E.1 E.2.1 d7 (by decide) ?_
    unfold bzL at kk
    rw [if_pos h] at kk
    exact kk
  · refine lv_lconst (v := 1) E.1 E.2.1 d3 (by decide) ?_
    refine lv_goto (tgt := pc + 8) E.1 E.2.1 d4 (by omega) ?_
    unfold bzL at kk
    rw [if_neg h] at kk
    exact kk
end Rl

