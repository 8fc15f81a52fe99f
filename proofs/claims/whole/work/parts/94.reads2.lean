section Rf
variable {N x o : Nat} {ps ys : Nat → Nat} {M : Mem} {r : Rho} {a b c : Int32}
theorem two_ok {p q : Nat} (G : GS N x o ps ys M r) (hp : p < cn (r.2 1) 5) (hq : q < cn (r.2 1) 5) (h : p ≠ q) : f_CT_needTwo x (iN p) (iN q) M = some (.inl (), M) ∧ f_R_two (iN p) (iN q) r = some 0 := by
  have h5 := G.I.b5
  exact ⟨needTwo_y G ⟨p, hp, rfl⟩ ⟨q, hq, rfl⟩ (iN_ne h (by omega) (by omega)), two_y G.I ⟨p, hp, rfl⟩ ⟨q, hq, rfl⟩ (iN_ne h (by omega) (by omega))⟩
/-- two that aren't: which exception -/
theorem two_ex (G : GS N x o ps ys M r) (h : ¬ okT (r.2 1) a b) : (f_CT_needTwo x a b M = some (.inr "java/lang/IndexOutOfBoundsException", m_new M (0, 0)) ∧ f_R_two a b r = some 1) ∨ (f_CT_needTwo x a b M = some (.inr "java/lang/IllegalArgumentException", m_new M (0, 0)) ∧ f_R_two a b r = some 2) := by
  by_cases h1 : okR a (cn (r.2 1) 5)
  · by_cases h2 : okR b (cn (r.2 1) 5)
    · by_cases h3 : a = b
      · exact Or.inr ⟨needTwo_3 G h1 h2 h3, two_3 G.I h1 h2 h3⟩
      · obtain ⟨p, hp, rfl⟩ := h1
        obtain ⟨q, hq, rfl⟩ := h2
        exact absurd ⟨p, q, hp, hq, fun e => h3 (by rw [e]), rfl, rfl⟩ h
    · exact Or.inl ⟨needTwo_2 G h1 h2, two_2 G.I h1 h2⟩
  · exact Or.inl ⟨needTwo_1 G h1, two_1 G.I h1⟩
theorem op_saw (G : GS N x o ps ys M r) : Both N x o (f_L_saw x a b c o M) (f_R_saw a b c r) := by
  have h5 := G.I.b5
  by_cases h : okT (r.2 1) a b
  · obtain ⟨p, q, hp, hq, hpq, rfl, rfl⟩ := h
    obtain ⟨e1, e2⟩ := two_ok G hp hq hpq
    have hp2 : p < 10 := by omega
    have hq2 : q < 10 := by omega
    by_cases hc : c = 0
    · refine both_ok (v := swC (r.2 1) p q) (G.th 0) (th0 r 0) ?_ ?_
      · unfold f_L_saw f_CT_saw
        rw [G.A.c, ob, ob, e1, ob, sx_l, G.A.gN, ob, G.S.g_people, ob, G.S.g_person hp2, ob, if_pos hc, G.S.g_saw hp2, ob, G.S.aS hp2 hq2, ob, ob, sx_l, G.R.qs G.I hp hq2]
        rfl
      · unfold f_R_saw f_R_saw_36
        rw [e2, ob, th0, if_pos i00, if_pos hc, ldS hp2 hq2, ob]
        rfl
    · refine both_ok (v := mt (r.2 1) p q) (G.th 0) (th0 r 0) ?_ ?_
      · unfold f_L_saw f_CT_saw
        rw [G.A.c, ob, ob, e1, ob, sx_l, G.A.gN, ob, G.S.g_people, ob, G.S.g_person hp2, ob, if_neg hc, G.S.g_met hp2, ob, G.S.aM hp2 hq2, ob, ob, sx_l, G.R.qm G.I hp hq2]
        rfl
      · unfold f_R_saw f_R_saw_36
        rw [e2, ob, th0, if_pos i00, if_neg hc, ldM hp2 hq2, ob]
        rfl
  · rcases two_ex G h with ⟨e1, e2⟩ | ⟨e1, e2⟩
    · refine both_ex (c := 1) (v := 0) (G.new.th 1) i1n (th0 r 1) ?_ ?_
      · unfold f_L_saw f_CT_saw
        rw [G.A.c, ob, ob, e1, ob, sx_r, ob, sx_r, if_pos rfl]
      · unfold f_R_saw
        rw [e2, ob, th0, if_neg i10]
    · refine both_ex (c := 2) (v := 0) (G.new.th 2) (by decide) (th0 r 2) ?_ ?_
      · unfold f_L_saw f_CT_saw
        rw [G.A.c, ob, ob, e1, ob, sx_r, ob, sx_r, if_neg (by decide), if_pos rfl]
      · unfold f_R_saw
        rw [e2, ob, th0, if_neg i20]
theorem op_tie (G : GS N x o ps ys M r) : Both N x o (f_L_tie x a b o M) (f_R_tie a b r) := by
  have h6 := G.I.b6
  by_cases h1 : okR a (cn (r.2 1) 6)
  · have h1' := h1
    obtain ⟨k, hk, rfl⟩ := h1
    have ek := G.R.E k hk
    by_cases hc : b = 0
    · refine both_ok (v := tA (r.2 1) k) (G.th 0) (th0 r 0) ?_ ?_
      · unfold f_L_tie f_CT_tie
        rw [G.A.c, ob, ob, needT_y G h1', ob, sx_l, if_pos hc, G.A.gN, ob, G.S.g_who, ob, G.S.a7 (show k < 24 by omega), ob, ob, sx_l, ek.1]
        rfl
      · unfold f_R_tie f_R_tie_23
        rw [rlm6, ob, G.I.n6, isIn_y h1' (by omega), ob, if_neg i1n, th0, if_pos i00, if_pos hc, who_k (by omega), ob]
        rfl
    · refine both_ok (v := tB (r.2 1) k) (G.th 0) (th0 r 0) ?_ ?_
      · unfold f_L_tie f_CT_tie
        rw [G.A.c, ob, ob, needT_y G h1', ob, sx_l, if_neg hc, G.A.gN, ob, G.S.g_whom, ob, G.S.a8 (show k < 24 by omega), ob, ob, sx_l, ek.2]
        rfl
      · unfold f_R_tie f_R_tie_23
        rw [rlm6, ob, G.I.n6, isIn_y h1' (by omega), ob, if_neg i1n, th0, if_pos i00, if_neg hc, whom_k (by omega), ob]
        rfl
  · refine both_ex (c := 1) (v := 0) (G.new.th 1) i1n (th0 r 1) ?_ ?_
    · unfold f_L_tie f_CT_tie
      rw [G.A.c, ob, ob, needT_n G h1, ob, sx_r, ob, sx_r, if_pos rfl]
    · unfold f_R_tie f_R_tie_23
      rw [rlm6, ob, G.I.n6, isIn_n h1 (by omega), ob, if_pos rfl, th0, if_neg i10]
theorem op_safest (G : GS N x o ps ys M r) (hN : 40 < N) : ∃ v q, f_CT_safest N x a M = some v ∧ f_R_safest N a r = some (v, q) ∧ GS N x o ps ys M q := by
  refine ⟨_, _, ?_, f_R_safest_eq G.I hN a, G.th 0⟩
  unfold f_CT_safest
  rw [G.A.gN, ob, G.S.g_lands, ob, G.S.c1, ob, f_Lands_safestOfAll_eq G.S G.I G.R hN, ob]
  by_cases h : a = 0
  · rw [if_pos h, if_pos h]
  · rw [if_neg h, if_neg h, ob, G.S.g_lands, ob, G.S.c1, ob, f_Lands_greatestCostOf_eq G.S G.I G.R (by omega), ob]
theorem f_Math_floorMod_eq {w k : Nat} (hw : w < 60) (hk : k < 60) : f_Math_floorMod (iN w - iN k) 60 = some (iN ((w + 60 - k) % 60)) := by
  have all : ∀ w k : Fin 60, f_Math_floorMod (iN w.val - iN k.val) 60 = some (iN ((w.val + 60 - k.val) % 60)) := by
    intro w k
    unfold f_Math_floorMod nz
    revert w k
    decide +kernel
  exact all ⟨w, hw⟩ ⟨k, hk⟩
theorem f_Log_cellOf_eq (G : GS N x o ps ys M r) {k c : Nat} (hk : k < cn (r.2 1) 12) (hc : c < 8) : f_Log_cellOf (x + 2 + 9) (iN k) (iN c) M = some (lgc (r.2 1) k c) := by
  have hb := G.I.b12
  obtain ⟨e0, w, hw, e1, e2⟩ := G.R.G
  unfold f_Log_cellOf
  rw [if_neg (iN_nn (by omega)), G.S.i9, ob, e0, G.I.n12, if_pos (iN_ylt hk (by omega)), G.S.i9, ob, e1, f_Math_floorMod_eq hw (by omega), ob, G.S.g_cells, ob]
  have hm : (w + 60 - k) % 60 < 60 := Nat.mod_lt _ (by decide)
  rw [show iN ((w + 60 - k) % 60) * 8 + iN c = iN ((w + 60 - k) % 60 * 8 + c) by rw [q8, iN_mul, iN_add], G.S.a10 (by omega), ob, e2 k c hk hc]
theorem f_Log_cellOf_no (G : GS N x o ps ys M r) (h : ¬ okR a (cn (r.2 1) 12)) (b : Int32) : f_Log_cellOf (x + 2 + 9) a b M = some (-1) := by
  have hb := G.I.b12
  unfold f_Log_cellOf
  by_cases h0 : a < 0
  · rw [if_pos h0]
  · rw [if_neg h0, G.S.i9, ob, G.R.G.1, G.I.n12, if_neg (okR_n h (by omega) h0)]
theorem f_R_logged_eq {k c : Nat} (hk : k < 60) (hc : c < 8) : f_R_logged (iN k) (iN c) r = some (lgc (r.2 1) k c) := by
  unfold f_R_logged lgc
  rw [show ((420 : Int32) + 8 * iN k) + iN c = iN (420 + 8 * k + c) by simp only [q0, q1, q2, q3, q4, q5, q6, q7, q8, q10, q20, q92, q172, q272, q372, q420, q900, iN_mul, iN_add], rld1 (by omega)]
  rfl
theorem e7 : (7 : Int32) = iN 8 - 1 := by decide
theorem op_log (G : GS N x o ps ys M r) : Both N x o (f_L_log x a b o M) (f_R_log a b r) := by
  have hb := G.I.b12
  by_cases h2 : okR b 8
  · have w := needW_y (M := M) 7 (by decide) h2
    have w2 : f_CT_needWhat b 7 M = some (.inl (), M) := w
    have h2' := h2
    obtain ⟨c, hc, rfl⟩ := h2
    by_cases h1 : okR a (cn (r.2 1) 12)
    · have h1' := h1
      obtain ⟨k, hk, rfl⟩ := h1
      refine both_ok (v := lgc (r.2 1) k c) (G.th 0) (th0 r 0) ?_ ?_
      · unfold f_L_log f_CT_log
        rw [G.A.c, ob, w2, ob, sx_l, G.A.gN, ob, G.S.g_log, ob, G.S.c9, ob, f_Log_cellOf_eq G hk hc, ob, ob, sx_l]
        rfl
      · unfold f_R_log f_R_log_16
        rw [e7, isIn_y h2' (by decide), ob, if_neg i1n, th0, if_pos i00, rlm12, ob]
        have e : f_R_isIn (iN k) 0 ((r_set r 0 0).2 1 12 - 1) = some 1 := by
          rw [set_2, G.I.n12]
          exact isIn_y h1' (by omega)
        rw [e, ob, if_neg i1n, f_R_logged_eq (by omega) hc, ob]
        rfl
    · refine both_ok (v := -1) (G.th 0) (th0 r 0) ?_ ?_
      · unfold f_L_log f_CT_log
        rw [G.A.c, ob, w2, ob, sx_l, G.A.gN, ob, G.S.g_log, ob, G.S.c9, ob, f_Log_cellOf_no G h1, ob, ob, sx_l]
        rfl
      · unfold f_R_log f_R_log_16
        rw [e7, isIn_y h2' (by decide), ob, if_neg i1n, th0, if_pos i00, rlm12, ob]
        have e : f_R_isIn a 0 ((r_set r 0 0).2 1 12 - 1) = some 0 := by
          rw [set_2, G.I.n12]
          exact isIn_n h1 (by omega)
        rw [e, ob, if_pos rfl]
  · have w2 : f_CT_needWhat b 7 M = some (.inr "java/util/NoSuchElementException", m_new M (0, 0)) := needW_n 7 (by decide) h2
    refine both_ex (c := 1) (v := 0) (G.new.th 1) i1n (th0 r 1) ?_ ?_
    · unfold f_L_log f_CT_log
      rw [G.A.c, ob, w2, ob, sx_r, ob, sx_r, if_pos rfl]
    · unfold f_R_log f_R_log_16
      rw [e7, isIn_n h2 (by decide), ob, if_pos rfl, th0, if_neg i10]
theorem op_fault (G : GS N x o ps ys M r) : ∃ v q, f_CT_fault x M = some v ∧ f_R_fault r = some (v, q) ∧ GS N x o ps ys M q := by
  refine ⟨r.1 12, r_set r 0 0, ?_, ?_, G.th 0⟩
  · unfold f_CT_fault
    rw [G.A.i, ob, G.2.2.2.2.2.1.1]
  · unfold f_R_fault
    rw [set_f (by decide)]
/-! prices are the same both ways -/
theorem cnt_all : ∀ k : Fin 32, cntI (iN k.val) = iN (k.val / 2 % 4 + 1) := by decide +kernel
theorem abs_all : ∀ a b : Fin 5, absI (iN a.val - iN b.val) = absI (iN b.val - iN a.val) := by decide +kernel
theorem costM_comm {m : Nat → Int32} {g h : Int32} (hg : nx g 32) (hh : nx h 32) : costM m g h = costM m h g := by
  obtain ⟨k, hk, rfl⟩ := hg
  obtain ⟨j, hj, rfl⟩ := hh
  unfold costM costP
  by_cases h1 : iN k >>> (3 &&& 31) = iN j >>> (3 &&& 31)
  · rw [if_pos h1, if_pos h1.symm]
    by_cases h2 : iN k >>> (3 &&& 31) = 2
    · rw [if_pos h2, if_pos (show iN j >>> (3 &&& 31) = 2 from h1 ▸ h2), show cntI (iN k) = iN (k / 2 % 4 + 1) from cnt_all ⟨k, hk⟩, show cntI (iN j) = iN (j / 2 % 4 + 1) from cnt_all ⟨j, hj⟩, show absI (iN (k / 2 % 4 + 1) - iN (j / 2 % 4 + 1)) = absI (iN (j / 2 % 4 + 1) - iN (k / 2 % 4 + 1)) from abs_all ⟨k / 2 % 4 + 1, by omega⟩ ⟨j / 2 % 4 + 1, by omega⟩]
      by_cases h3 : iN k &&& 1 = iN j &&& 1
      · rw [if_pos h3, if_pos h3.symm]
      · rw [if_neg h3, if_neg fun q => h3 q.symm]
    · rw [if_neg h2, if_neg (show ¬ iN j >>> (3 &&& 31) = 2 from h1 ▸ h2)]
  · rw [if_neg h1, if_neg fun q => h1 q.symm]
theorem costM_self (m : Nat → Int32) (g : Int32) : costM m g g = 0 := by
  unfold costM costP
  rw [if_pos rfl]
  by_cases h2 : g >>> (3 &&& 31) = 2
  · rw [if_pos h2, if_pos rfl, Int32.sub_self]
    show m 14 * absI 0 + 0 = 0
    rw [show absI 0 = 0 by decide, Int32.mul_zero, Int32.add_zero]
  · rw [if_neg h2]
end Rf
