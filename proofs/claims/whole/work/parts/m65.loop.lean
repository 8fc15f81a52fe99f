/-! the law's loop -/
set_option maxHeartbeats 4000000 in
set_option maxRecDepth 100000 in
theorem t_L_loop {p : Program} {l : Launch} {e : Env} {s : State} {m : MethodId} {args : Array Value} {below : List Frame} {meth : Method} {c : Code} {G : wG} {xs : Nat → Int32} {L b9 x9 o9 N : Nat}
    (hfl : l.stackTraces = false) (on : g_on G = true) (E : wE G p l s m args meth c cL_law_ "CheekTownLaw" 7) (hr : meth.sig.returnType = some .boolean) (hX : va_X b9 L xs s s.heap) (hbl : b9 < s.heap.size) (hbA : ¬ g_A G b9) :
    ∀ (n : Nat) (i9 : Int32) (M : Mem) (r : Rho) (H : Heap) (locs : List Loc) (ls : Array Slot) (c9 d9 : Nat), c9 + 8 * n ≤ 601024 → d9 + 900 * n ≤ 7293034 → w_W G M r s H locs → lv_has ls 7 [(4, .int i9), (0, .ref b9), (1, .ref x9), (2, .ref (g_r G)), (3, .ref o9)] →
      W p l e room_1 s m args below meth c H locs c9 d9 (PQ G below args s 601024 7293034 (fun z : Mem × Rho => (.inl (some (.int 1)), z)) (f_L_loop N xs L x9 o9 n i9 M r)) (F0 m 23 ls []) := by
  intro n
  induction n with
  | zero => intros; exact W_none
  | succ n ih =>
    intro i9 M r H locs ls c9 d9 hc hd hw hl
    obtain ⟨hx, hb, hts, hown, hml, hTT, -⟩ := id E
    rw [f_L_loop]
    refine lv_iload hx hb dL_law__23 (lv_at hl 0 rfl) ?_
    refine lv_aload_n hx hb dL_law__25 rfl (lv_at hl 1 rfl) ?_
    refine va_slen hx hb hX hbl hbA hw.2 dL_law__26 ?_
    refine lv_bipush (v := 6) hx hb dL_law__27 (by decide) ?_
    refine lv_isub hx hb dL_law__29 ?_
    refine cx_icmp_gt (tgt := 2681) E dL_law__30 (by decide) (fun _ => ?_) (fun _ => ?_)
    · refine lv_iconst (v := 1) hx hb dL_law__2681 (by decide) ?_
      exact p_zret E hw hr (Or.inr rfl) (by omega) (by omega) rfl dL_law__2682
    · refine t_L_step hfl on E hX hbl hbA hw hl (by omega) (by omega) (fun M r H locs ls hw hl => ?_)
      refine lv_iinc (v := i9 + 6) (lv' := [(4, .int (i9 + 6)), (0, .ref b9), (1, .ref x9), (2, .ref (g_r G)), (3, .ref o9)]) hx hb dL_law__2675 hl (k := 0) rfl rfl (by decide) rfl (fun ls hl => ?_)
      refine lv_goto (tgt := 23) hx hb dL_law__2678 (by decide) ?_
      exact ih (i9 + 6) M r H locs ls (c9 + 8) (d9 + 900) (by omega) (by omega) hw hl

