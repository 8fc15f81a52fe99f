section Cn
variable {N x o : Nat} {ps ys : Nat → Nat} {M K : Mem} {r q : Rho} {a b c d e v : Int32} {n : Nat}
theorem op_count (G : GS N x o ps ys M r) (hN : 40 < N) : ∃ v q, f_CT_count N x a M = some v ∧ f_R_count N a r = some (v, q) ∧ GS N x o ps ys M q := by
  have hy : ∀ k lo hi : Nat, lo ≤ k → k ≤ hi → hi ≤ 1000 → f_R_isIn (iN k) (iN lo) (iN hi) = some 1 := fun k lo hi h1 h2 h3 => isInI_y h1 h2 h3
  have hn : ∀ k lo hi : Nat, ¬ (lo ≤ k ∧ k ≤ hi) → k ≤ 1000 → lo ≤ 1000 → hi ≤ 1000 → f_R_isIn (iN k) (iN lo) (iN hi) = some 0 := fun k lo hi h1 h2 h3 h4 => isInI_n (fun ⟨n, a1, a2, a3⟩ => h1 (by have := (iN_inj (by omega) (by omega)).mp a3; omega)) h4 h3

  by_cases h0 : a = 0
  · subst h0
    refine ⟨r.2 1 3, r_set r 0 0, ?_, ?_, G.th 0⟩
    · unfold f_CT_count
      rw [if_pos rfl, G.A.gN, ob, G.S.g_lands, ob, G.S.i1, ob, G.R.v3]
    · unfold f_R_count
      rw [if_pos rfl, rlm3, ob]
      rfl
  by_cases h1 : a = 1
  · subst h1
    refine ⟨r.2 1 4, r_set r 0 0, ?_, ?_, G.th 0⟩
    · unfold f_CT_count
      rw [if_neg (by decide), if_pos rfl, G.A.gN, ob, G.S.g_lands, ob, G.S.i1, ob, G.R.v4]
    · unfold f_R_count
      rw [if_neg (by decide), if_pos rfl, rlm4, ob]
      rfl
  by_cases h2 : a = 2
  · subst h2
    refine ⟨r.2 1 5, r_set r 0 0, ?_, ?_, G.th 0⟩
    · unfold f_CT_count
      rw [if_neg (by decide), if_neg (by decide), if_pos rfl, G.A.gN, ob, G.S.i0, ob, G.R.v5]
    · unfold f_R_count
      rw [if_neg (by decide), if_neg (by decide), if_pos rfl, rlm5, ob]
      rfl
  by_cases h3 : a = 3
  · subst h3
    refine ⟨r.2 1 6, r_set r 0 0, ?_, ?_, G.th 0⟩
    · unfold f_CT_count
      rw [if_neg (by decide), if_neg (by decide), if_neg (by decide), if_pos rfl, G.A.gN, ob, G.S.i0, ob, G.R.v6]
    · unfold f_R_count
      rw [if_neg (by decide), if_neg (by decide), if_neg (by decide), if_pos rfl, rlm6, ob]
      rfl
  by_cases h4 : a = 4
  · subst h4
    refine ⟨r.2 1 0, r_set r 0 0, ?_, ?_, G.th 0⟩
    · unfold f_CT_count
      rw [if_neg (by decide), if_neg (by decide), if_neg (by decide), if_neg (by decide), if_pos rfl, G.A.gN, ob, G.S.i0, ob, G.R.v0]
    · unfold f_R_count
      rw [if_neg (by decide), if_neg (by decide), if_neg (by decide), if_neg (by decide), if_pos rfl, rlm0, ob]
      rfl
  by_cases h5 : a = 5
  · subst h5
    refine ⟨r.2 1 1, r_set r 0 0, ?_, ?_, G.th 0⟩
    · obtain ⟨g1, g2, lw, g3, g4⟩ := G.nw
      unfold f_CT_count
      rw [if_neg (by decide), if_neg (by decide), if_neg (by decide), if_neg (by decide), if_neg (by decide), if_pos rfl, G.A.gN, ob, G.S.n0, ob]
      rcases g3 with ⟨e1, -, e2⟩ | ⟨u, e1, e2, e3, e4⟩
      · rw [e1, if_neg (by decide), e2]
      · obtain ⟨c, n, en, cv, ⟨⟨l1, -⟩, -⟩, -⟩ := e3
        rw [e1, if_pos (show (some u).isSome = true from rfl), ob, gR_k (ci := 7) G.S.k0, e1, ob, gI_k (ci := 1) (by rw [l1]), ob, e4]
    · unfold f_R_count
      rw [if_neg (by decide), if_neg (by decide), if_neg (by decide), if_neg (by decide), if_neg (by decide), if_pos rfl, rlm1, ob]
      rfl
  by_cases h6 : a = 6
  · subst h6
    refine ⟨r.2 1 7, r_set r 0 0, ?_, ?_, G.th 0⟩
    · unfold f_CT_count
      rw [if_neg (by decide), if_neg (by decide), if_neg (by decide), if_neg (by decide), if_neg (by decide), if_neg (by decide), if_pos rfl, G.A.gN, ob, G.S.i0, ob, G.R.v7]
    · unfold f_R_count
      rw [if_neg (by decide), if_neg (by decide), if_neg (by decide), if_neg (by decide), if_neg (by decide), if_neg (by decide), show f_R_isIn 6 6 10 = some 1 from hy 6 6 10 (by decide) (by decide) (by decide), ob, if_neg i1n, show ((7 : Int32) + 6) - 6 = 7 by decide, rlm7, ob]
      rfl
  by_cases h7 : a = 7
  · subst h7
    refine ⟨r.2 1 8, r_set r 0 0, ?_, ?_, G.th 0⟩
    · unfold f_CT_count
      rw [if_neg (by decide), if_neg (by decide), if_neg (by decide), if_neg (by decide), if_neg (by decide), if_neg (by decide), if_neg (by decide), if_pos rfl, G.A.gN, ob, G.S.i0, ob, G.R.v8]
    · unfold f_R_count
      rw [if_neg (by decide), if_neg (by decide), if_neg (by decide), if_neg (by decide), if_neg (by decide), if_neg (by decide), show f_R_isIn 7 6 10 = some 1 from hy 7 6 10 (by decide) (by decide) (by decide), ob, if_neg i1n, show ((7 : Int32) + 7) - 6 = 8 by decide, rlm8, ob]
      rfl
  by_cases h8 : a = 8
  · subst h8
    refine ⟨r.2 1 9, r_set r 0 0, ?_, ?_, G.th 0⟩
    · unfold f_CT_count
      rw [if_neg (by decide), if_neg (by decide), if_neg (by decide), if_neg (by decide), if_neg (by decide), if_neg (by decide), if_neg (by decide), if_neg (by decide), if_pos rfl, G.A.gN, ob, G.S.i0, ob, G.R.v9]
    · unfold f_R_count
      rw [if_neg (by decide), if_neg (by decide), if_neg (by decide), if_neg (by decide), if_neg (by decide), if_neg (by decide), show f_R_isIn 8 6 10 = some 1 from hy 8 6 10 (by decide) (by decide) (by decide), ob, if_neg i1n, show ((7 : Int32) + 8) - 6 = 9 by decide, rlm9, ob]
      rfl
  by_cases h9 : a = 9
  · subst h9
    refine ⟨r.2 1 10, r_set r 0 0, ?_, ?_, G.th 0⟩
    · unfold f_CT_count
      rw [if_neg (by decide), if_neg (by decide), if_neg (by decide), if_neg (by decide), if_neg (by decide), if_neg (by decide), if_neg (by decide), if_neg (by decide), if_neg (by decide), if_pos rfl, G.A.gN, ob, G.S.i0, ob, G.R.v10]
    · unfold f_R_count
      rw [if_neg (by decide), if_neg (by decide), if_neg (by decide), if_neg (by decide), if_neg (by decide), if_neg (by decide), show f_R_isIn 9 6 10 = some 1 from hy 9 6 10 (by decide) (by decide) (by decide), ob, if_neg i1n, show ((7 : Int32) + 9) - 6 = 10 by decide, rlm10, ob]
      rfl
  by_cases h10 : a = 10
  · subst h10
    refine ⟨r.2 1 11, r_set r 0 0, ?_, ?_, G.th 0⟩
    · unfold f_CT_count
      rw [if_neg (by decide), if_neg (by decide), if_neg (by decide), if_neg (by decide), if_neg (by decide), if_neg (by decide), if_neg (by decide), if_neg (by decide), if_neg (by decide), if_neg (by decide), if_pos rfl, G.A.gN, ob, G.S.i0, ob, G.R.v11]
    · unfold f_R_count
      rw [if_neg (by decide), if_neg (by decide), if_neg (by decide), if_neg (by decide), if_neg (by decide), if_neg (by decide), show f_R_isIn 10 6 10 = some 1 from hy 10 6 10 (by decide) (by decide) (by decide), ob, if_neg i1n, show ((7 : Int32) + 10) - 6 = 11 by decide, rlm11, ob]
      rfl
  by_cases h11 : a = 11
  · subst h11
    refine ⟨cdS (r.2 1), r_set r 0 0, ?_, ?_, G.th 0⟩
    · unfold f_CT_count
      rw [if_neg (by decide), if_neg (by decide), if_neg (by decide), if_neg (by decide), if_neg (by decide), if_neg (by decide), if_neg (by decide), if_neg (by decide), if_neg (by decide), if_neg (by decide), if_neg (by decide), if_pos rfl, G.A.gN, ob, G.S.c0, ob, f_Town_peopleWithCold_eq G.S G.I G.R hN, ob]
    · unfold f_R_count
      rw [if_neg (by decide), if_neg (by decide), if_neg (by decide), if_neg (by decide), if_neg (by decide), if_neg (by decide), show f_R_isIn 11 6 10 = some 0 from hn 11 6 10 (by decide) (by decide) (by decide) (by decide), ob, if_pos rfl, if_pos rfl, f_R_coldsNow_eq (thI G.I 0) hN, ob]
      rfl
  by_cases h12 : a = 12
  · subst h12
    refine ⟨r.2 1 12, r_set r 0 0, ?_, ?_, G.th 0⟩
    · unfold f_CT_count
      rw [if_neg (by decide), if_neg (by decide), if_neg (by decide), if_neg (by decide), if_neg (by decide), if_neg (by decide), if_neg (by decide), if_neg (by decide), if_neg (by decide), if_neg (by decide), if_neg (by decide), if_neg (by decide), if_pos rfl, G.A.gN, ob, G.S.g_log, ob, G.S.i9, ob, G.R.G.1]
    · unfold f_R_count
      rw [if_neg (by decide), if_neg (by decide), if_neg (by decide), if_neg (by decide), if_neg (by decide), if_neg (by decide), show f_R_isIn 12 6 10 = some 0 from hn 12 6 10 (by decide) (by decide) (by decide) (by decide), ob, if_pos rfl, if_neg (by decide), if_pos rfl, rlm12, ob]
      rfl
  by_cases h13 : a = 13
  · subst h13
    refine ⟨r.1 6, r_set r 0 0, ?_, ?_, G.th 0⟩
    · unfold f_CT_count
      rw [if_neg (by decide), if_neg (by decide), if_neg (by decide), if_neg (by decide), if_neg (by decide), if_neg (by decide), if_neg (by decide), if_neg (by decide), if_neg (by decide), if_neg (by decide), if_neg (by decide), if_neg (by decide), if_neg (by decide), if_pos rfl, G.A.i, ob, G.2.2.2.2.2.2.2.1]
    · unfold f_R_count
      rw [if_neg (by decide), if_neg (by decide), if_neg (by decide), if_neg (by decide), if_neg (by decide), if_neg (by decide), show f_R_isIn 13 6 10 = some 0 from hn 13 6 10 (by decide) (by decide) (by decide) (by decide), ob, if_pos rfl, if_neg (by decide), if_neg (by decide), if_pos rfl]
      rfl
  by_cases h14 : a = 14
  · subst h14
    refine ⟨r.2 1 13, r_set r 0 0, ?_, ?_, G.th 0⟩
    · unfold f_CT_count
      rw [if_neg (by decide), if_neg (by decide), if_neg (by decide), if_neg (by decide), if_neg (by decide), if_neg (by decide), if_neg (by decide), if_neg (by decide), if_neg (by decide), if_neg (by decide), if_neg (by decide), if_neg (by decide), if_neg (by decide), if_neg (by decide), if_pos rfl, G.A.gN, ob, G.S.g_lands, ob, G.S.g_manners, ob, G.S.i2, ob, G.R.1.2.2.1.1]
    · unfold f_R_count
      rw [if_neg (by decide), if_neg (by decide), if_neg (by decide), if_neg (by decide), if_neg (by decide), if_neg (by decide), show f_R_isIn 14 6 10 = some 0 from hn 14 6 10 (by decide) (by decide) (by decide) (by decide), ob, if_pos rfl, if_neg (by decide), if_neg (by decide), if_neg (by decide), show f_R_isIn 14 14 16 = some 1 from hy 14 14 16 (by decide) (by decide) (by decide), ob, if_neg i1n, show ((13 : Int32) + 14) - 14 = 13 by decide, rlm13, ob]
      rfl
  by_cases h15 : a = 15
  · subst h15
    refine ⟨r.2 1 14, r_set r 0 0, ?_, ?_, G.th 0⟩
    · unfold f_CT_count
      rw [if_neg (by decide), if_neg (by decide), if_neg (by decide), if_neg (by decide), if_neg (by decide), if_neg (by decide), if_neg (by decide), if_neg (by decide), if_neg (by decide), if_neg (by decide), if_neg (by decide), if_neg (by decide), if_neg (by decide), if_neg (by decide), if_neg (by decide), if_pos rfl, G.A.gN, ob, G.S.g_lands, ob, G.S.g_manners, ob, G.S.i2, ob, G.R.1.2.2.1.2.1]
    · unfold f_R_count
      rw [if_neg (by decide), if_neg (by decide), if_neg (by decide), if_neg (by decide), if_neg (by decide), if_neg (by decide), show f_R_isIn 15 6 10 = some 0 from hn 15 6 10 (by decide) (by decide) (by decide) (by decide), ob, if_pos rfl, if_neg (by decide), if_neg (by decide), if_neg (by decide), show f_R_isIn 15 14 16 = some 1 from hy 15 14 16 (by decide) (by decide) (by decide), ob, if_neg i1n, show ((13 : Int32) + 15) - 14 = 14 by decide, rlm14, ob]
      rfl
  by_cases h16 : a = 16
  · subst h16
    refine ⟨r.2 1 15, r_set r 0 0, ?_, ?_, G.th 0⟩
    · unfold f_CT_count
      rw [if_neg (by decide), if_neg (by decide), if_neg (by decide), if_neg (by decide), if_neg (by decide), if_neg (by decide), if_neg (by decide), if_neg (by decide), if_neg (by decide), if_neg (by decide), if_neg (by decide), if_neg (by decide), if_neg (by decide), if_neg (by decide), if_neg (by decide), if_neg (by decide), if_pos rfl, G.A.gN, ob, G.S.g_lands, ob, G.S.g_manners, ob, G.S.i2, ob, G.R.1.2.2.1.2.2]
    · unfold f_R_count
      rw [if_neg (by decide), if_neg (by decide), if_neg (by decide), if_neg (by decide), if_neg (by decide), if_neg (by decide), show f_R_isIn 16 6 10 = some 0 from hn 16 6 10 (by decide) (by decide) (by decide) (by decide), ob, if_pos rfl, if_neg (by decide), if_neg (by decide), if_neg (by decide), show f_R_isIn 16 14 16 = some 1 from hy 16 14 16 (by decide) (by decide) (by decide), ob, if_neg i1n, show ((13 : Int32) + 16) - 14 = 15 by decide, rlm15, ob]
      rfl
  have n1 : f_R_isIn a 6 10 = some 0 := isInI_n (lo := 6) (hi := 10) (fun ⟨n, a1, a2, a3⟩ => by
    have : n = 6 ∨ n = 7 ∨ n = 8 ∨ n = 9 ∨ n = 10 := by omega
    rcases this with rfl | rfl | rfl | rfl | rfl
    · exact h6 a3
    · exact h7 a3
    · exact h8 a3
    · exact h9 a3
    · exact h10 a3) (by decide) (by decide)
  have n2 : f_R_isIn a 14 16 = some 0 := isInI_n (lo := 14) (hi := 16) (fun ⟨n, a1, a2, a3⟩ => by
    have : n = 14 ∨ n = 15 ∨ n = 16 := by omega
    rcases this with rfl | rfl | rfl
    · exact h14 a3
    · exact h15 a3
    · exact h16 a3) (by decide) (by decide)
  refine ⟨-1, r_set r 0 0, ?_, ?_, G.th 0⟩
  · unfold f_CT_count
    rw [if_neg h0, if_neg h1, if_neg h2, if_neg h3, if_neg h4, if_neg h5, if_neg h6, if_neg h7, if_neg h8, if_neg h9, if_neg h10, if_neg h11, if_neg h12, if_neg h13, if_neg h14, if_neg h15, if_neg h16]
  · unfold f_R_count
    rw [if_neg h0, if_neg h1, if_neg h2, if_neg h3, if_neg h4, if_neg h5, n1, ob, if_pos rfl, if_neg h11, if_neg h12, if_neg h13, n2, ob, if_pos rfl]
end Cn
