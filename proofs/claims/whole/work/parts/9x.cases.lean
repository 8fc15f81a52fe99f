section Ca
variable {N x o i L : Nat} {ps ys : Nat → Nat} {M : Mem} {r : Rho} {xs : Nat → Int32}
theorem sld_0 (hi : i + 6 ≤ L) (hL : L ≤ 100000) : sld xs L (iN i) = some (xs i) := by
  unfold sld
  rw [if_pos (inR_iN (by omega) (by omega)), iN_cl (by omega)]
theorem sld_1 (hi : i + 6 ≤ L) (hL : L ≤ 100000) : sld xs L (iN i + 1) = some (xs (i + 1)) := by
  rw [show iN i + 1 = iN (i + 1) from iN_add i 1]
  unfold sld
  rw [if_pos (inR_iN (by omega) (by omega)), iN_cl (by omega)]
theorem sld_2 (hi : i + 6 ≤ L) (hL : L ≤ 100000) : sld xs L (iN i + 2) = some (xs (i + 2)) := by
  rw [show iN i + 2 = iN (i + 2) from iN_add i 2]
  unfold sld
  rw [if_pos (inR_iN (by omega) (by omega)), iN_cl (by omega)]
theorem sld_3 (hi : i + 6 ≤ L) (hL : L ≤ 100000) : sld xs L (iN i + 3) = some (xs (i + 3)) := by
  rw [show iN i + 3 = iN (i + 3) from iN_add i 3]
  unfold sld
  rw [if_pos (inR_iN (by omega) (by omega)), iN_cl (by omega)]
theorem sld_4 (hi : i + 6 ≤ L) (hL : L ≤ 100000) : sld xs L (iN i + 4) = some (xs (i + 4)) := by
  rw [show iN i + 4 = iN (i + 4) from iN_add i 4]
  unfold sld
  rw [if_pos (inR_iN (by omega) (by omega)), iN_cl (by omega)]
theorem sld_5 (hi : i + 6 ≤ L) (hL : L ≤ 100000) : sld xs L (iN i + 5) = some (xs (i + 5)) := by
  rw [show iN i + 5 = iN (i + 5) from iN_add i 5]
  unfold sld
  rw [if_pos (inR_iN (by omega) (by omega)), iN_cl (by omega)]
theorem case_0 (G : GS N x o ps ys M r) (hN : 20000 ≤ N) (hi : i + 6 ≤ L) (hL : L ≤ 100000) (kk : Mem → Rho → Option (Mem × Rho)) : ∃ ps2 ys2 K q, GS N x o ps2 ys2 K q ∧ f_L_c0 N xs L x o (iN i) M r kk = kk K q := by
  obtain ⟨v, K, q, h1, h2, G2⟩ := op_feed (a := xs (i + 1)) (b := xs (i + 2)) (c := xs (i + 3)) (d := xs (i + 4)) (e := xs (i + 5)) G (by omega)
  refine ⟨ps, ys, K, q, G2, ?_⟩
  unfold f_L_c0
  rw [sld_1 hi hL, ob, sld_2 hi hL, ob, sld_3 hi hL, ob, sld_4 hi hL, ob, sld_5 hi hL, ob, G.A.c, ob, h1, ob, ob, ob, ob, ob, ob, h2, ob, if_pos rfl]
theorem case_1 (G : GS N x o ps ys M r) (hN : 20000 ≤ N) (hi : i + 6 ≤ L) (hL : L ≤ 100000) (kk : Mem → Rho → Option (Mem × Rho)) : ∃ ps2 ys2 K q, GS N x o ps2 ys2 K q ∧ f_L_c1 N xs L x o (iN i) M r kk = kk K q := by
  obtain ⟨v, K, q, h1, h2, G2⟩ := op_end (a := xs (i + 1)) G
  refine ⟨ps, ys, K, q, G2, ?_⟩
  unfold f_L_c1
  rw [sld_1 hi hL, ob, G.A.c, ob, h1, ob, ob, h2, ob, if_pos rfl]
theorem case_2 (G : GS N x o ps ys M r) (hN : 20000 ≤ N) (hi : i + 6 ≤ L) (hL : L ≤ 100000) (kk : Mem → Rho → Option (Mem × Rho)) : ∃ ps2 ys2 K q, GS N x o ps2 ys2 K q ∧ f_L_c2 N xs L x o (iN i) M r kk = kk K q := by
  obtain ⟨ps2, ys2, z3, z6, h1, h2, G2, h3⟩ := op_town G (by omega)
  refine ⟨ps2, ys2, z3.2, z6.2, G2, ?_⟩
  unfold f_L_c2
  rw [h1, ob, h2, ob]
  exact h3 kk
theorem case_3 (G : GS N x o ps ys M r) (hN : 20000 ≤ N) (hi : i + 6 ≤ L) (hL : L ≤ 100000) (kk : Mem → Rho → Option (Mem × Rho)) : ∃ ps2 ys2 K q, GS N x o ps2 ys2 K q ∧ f_L_c3 N xs L x o (iN i) M r kk = kk K q := by
  obtain ⟨ps2, ys2, z3, z6, h1, h2, G2, h3⟩ := op_law G (by omega)
  refine ⟨ps2, ys2, z3.2, z6.2, G2, ?_⟩
  unfold f_L_c3
  rw [h1, ob, h2, ob]
  exact h3 kk
theorem case_4 (G : GS N x o ps ys M r) (hN : 20000 ≤ N) (hi : i + 6 ≤ L) (hL : L ≤ 100000) (kk : Mem → Rho → Option (Mem × Rho)) : ∃ ps2 ys2 K q, GS N x o ps2 ys2 K q ∧ f_L_c4 N xs L x o (iN i) M r kk = kk K q := by
  obtain ⟨v, q, h1, h2, G2⟩ := op_fault G
  refine ⟨ps, ys, M, q, G2, ?_⟩
  unfold f_L_c4
  rw [G.A.c, ob, h1, ob, h2, ob, if_pos rfl]
theorem case_5 (G : GS N x o ps ys M r) (hN : 20000 ≤ N) (hi : i + 6 ≤ L) (hL : L ≤ 100000) (kk : Mem → Rho → Option (Mem × Rho)) : ∃ ps2 ys2 K q, GS N x o ps2 ys2 K q ∧ f_L_c5 N xs L x o (iN i) M r kk = kk K q := by
  obtain ⟨ps2, ys2, z3, z6, h1, h2, G2, h3⟩ := op_cost (a := xs (i + 1)) (b := xs (i + 2)) G
  refine ⟨ps2, ys2, z3.2, z6.2, G2, ?_⟩
  unfold f_L_c5
  rw [sld_1 hi hL, ob, sld_2 hi hL, ob, h1, ob, ob, ob, h2, ob]
  exact h3 kk
theorem case_6 (G : GS N x o ps ys M r) (hN : 20000 ≤ N) (hi : i + 6 ≤ L) (hL : L ≤ 100000) (kk : Mem → Rho → Option (Mem × Rho)) : ∃ ps2 ys2 K q, GS N x o ps2 ys2 K q ∧ f_L_c6 N xs L x o (iN i) M r kk = kk K q := by
  obtain ⟨ps2, ys2, z3, z6, h1, h2, G2, h3⟩ := op_habit (a := xs (i + 1)) (b := xs (i + 2)) G (by omega)
  refine ⟨ps2, ys2, z3.2, z6.2, G2, ?_⟩
  unfold f_L_c6
  rw [sld_1 hi hL, ob, sld_2 hi hL, ob, h1, ob, ob, ob, h2, ob]
  exact h3 kk
theorem case_7 (G : GS N x o ps ys M r) (hN : 20000 ≤ N) (hi : i + 6 ≤ L) (hL : L ≤ 100000) (kk : Mem → Rho → Option (Mem × Rho)) : ∃ ps2 ys2 K q, GS N x o ps2 ys2 K q ∧ f_L_c7 N xs L x o (iN i) M r kk = kk K q := by
  obtain ⟨ps2, ys2, z3, z6, h1, h2, G2, h3⟩ := op_person (a := xs (i + 1)) (b := xs (i + 2)) G (by omega)
  refine ⟨ps2, ys2, z3.2, z6.2, G2, ?_⟩
  unfold f_L_c7
  rw [sld_1 hi hL, ob, sld_2 hi hL, ob, h1, ob, ob, ob, h2, ob]
  exact h3 kk
theorem case_8 (G : GS N x o ps ys M r) (hN : 20000 ≤ N) (hi : i + 6 ≤ L) (hL : L ≤ 100000) (kk : Mem → Rho → Option (Mem × Rho)) : ∃ ps2 ys2 K q, GS N x o ps2 ys2 K q ∧ f_L_c8 N xs L x o (iN i) M r kk = kk K q := by
  obtain ⟨ps2, ys2, z3, z6, h1, h2, G2, h3⟩ := op_saw (a := xs (i + 1)) (b := xs (i + 2)) (c := bz (xs (i + 3))) G
  refine ⟨ps2, ys2, z3.2, z6.2, G2, ?_⟩
  unfold f_L_c8
  rw [sld_1 hi hL, ob, sld_2 hi hL, ob, sld_3 hi hL, ob, h1, ob, ob, ob, ob, h2, ob]
  exact h3 kk
theorem case_9 (G : GS N x o ps ys M r) (hN : 20000 ≤ N) (hi : i + 6 ≤ L) (hL : L ≤ 100000) (kk : Mem → Rho → Option (Mem × Rho)) : ∃ ps2 ys2 K q, GS N x o ps2 ys2 K q ∧ f_L_c9 N xs L x o (iN i) M r kk = kk K q := by
  obtain ⟨ps2, ys2, z3, z6, h1, h2, G2, h3⟩ := op_tie (a := xs (i + 1)) (b := bz (xs (i + 2))) G
  refine ⟨ps2, ys2, z3.2, z6.2, G2, ?_⟩
  unfold f_L_c9
  rw [sld_1 hi hL, ob, sld_2 hi hL, ob, h1, ob, ob, ob, h2, ob]
  exact h3 kk
theorem case_10 (G : GS N x o ps ys M r) (hN : 20000 ≤ N) (hi : i + 6 ≤ L) (hL : L ≤ 100000) (kk : Mem → Rho → Option (Mem × Rho)) : ∃ ps2 ys2 K q, GS N x o ps2 ys2 K q ∧ f_L_c10 N xs L x o (iN i) M r kk = kk K q := by
  obtain ⟨ps2, ys2, z3, z6, h1, h2, G2, h3⟩ := op_will (a := xs (i + 1)) (b := xs (i + 2)) G (by omega)
  refine ⟨ps2, ys2, z3.2, z6.2, G2, ?_⟩
  unfold f_L_c10
  rw [sld_1 hi hL, ob, sld_2 hi hL, ob, h1, ob, ob, ob, h2, ob]
  exact h3 kk
theorem case_11 (G : GS N x o ps ys M r) (hN : 20000 ≤ N) (hi : i + 6 ≤ L) (hL : L ≤ 100000) (kk : Mem → Rho → Option (Mem × Rho)) : ∃ ps2 ys2 K q, GS N x o ps2 ys2 K q ∧ f_L_c11 N xs L x o (iN i) M r kk = kk K q := by
  obtain ⟨ps2, ys2, z3, z6, h1, h2, G2, h3⟩ := op_meet (a := xs (i + 1)) (b := xs (i + 2)) G (by omega)
  refine ⟨ps2, ys2, z3.2, z6.2, G2, ?_⟩
  unfold f_L_c11
  rw [sld_1 hi hL, ob, sld_2 hi hL, ob, h1, ob, ob, ob, h2, ob]
  exact h3 kk
theorem case_12 (G : GS N x o ps ys M r) (hN : 20000 ≤ N) (hi : i + 6 ≤ L) (hL : L ≤ 100000) (kk : Mem → Rho → Option (Mem × Rho)) : ∃ ps2 ys2 K q, GS N x o ps2 ys2 K q ∧ f_L_c12 N xs L x o (iN i) M r kk = kk K q := by
  obtain ⟨ps2, ys2, z3, z6, h1, h2, G2, h3⟩ := op_rounds (a := xs (i + 1)) G (by omega)
  refine ⟨ps2, ys2, z3.2, z6.2, G2, ?_⟩
  unfold f_L_c12
  rw [sld_1 hi hL, ob, h1, ob, ob, h2, ob]
  exact h3 kk
theorem case_13 (G : GS N x o ps ys M r) (hN : 20000 ≤ N) (hi : i + 6 ≤ L) (hL : L ≤ 100000) (kk : Mem → Rho → Option (Mem × Rho)) : ∃ ps2 ys2 K q, GS N x o ps2 ys2 K q ∧ f_L_c13 N xs L x o (iN i) M r kk = kk K q := by
  obtain ⟨ps2, ys2, z3, z6, h1, h2, G2, h3⟩ := op_own (a := xs (i + 1)) (b := xs (i + 2)) G (by omega)
  refine ⟨ps2, ys2, z3.2, z6.2, G2, ?_⟩
  unfold f_L_c13
  rw [sld_1 hi hL, ob, sld_2 hi hL, ob, h1, ob, ob, ob, h2, ob]
  exact h3 kk
theorem case_15 (G : GS N x o ps ys M r) (hN : 20000 ≤ N) (hi : i + 6 ≤ L) (hL : L ≤ 100000) (kk : Mem → Rho → Option (Mem × Rho)) : ∃ ps2 ys2 K q, GS N x o ps2 ys2 K q ∧ f_L_c15 N xs L x o (iN i) M r kk = kk K q := by
  obtain ⟨ps2, ys2, z3, z6, h1, h2, G2, h3⟩ := op_ties (a := xs (i + 1)) (b := xs (i + 2)) G (by omega)
  refine ⟨ps2, ys2, z3.2, z6.2, G2, ?_⟩
  unfold f_L_c15
  rw [sld_1 hi hL, ob, sld_2 hi hL, ob, h1, ob, ob, ob, h2, ob]
  exact h3 kk
theorem case_16 (G : GS N x o ps ys M r) (hN : 20000 ≤ N) (hi : i + 6 ≤ L) (hL : L ≤ 100000) (kk : Mem → Rho → Option (Mem × Rho)) : ∃ ps2 ys2 K q, GS N x o ps2 ys2 K q ∧ f_L_c16 N xs L x o (iN i) M r kk = kk K q := by
  obtain ⟨ps2, ys2, z3, z6, h1, h2, G2, h3⟩ := op_cut (a := xs (i + 1)) G (by omega)
  refine ⟨ps2, ys2, z3.2, z6.2, G2, ?_⟩
  unfold f_L_c16
  rw [sld_1 hi hL, ob, h1, ob, ob, h2, ob]
  exact h3 kk
theorem case_17 (G : GS N x o ps ys M r) (hN : 20000 ≤ N) (hi : i + 6 ≤ L) (hL : L ≤ 100000) (kk : Mem → Rho → Option (Mem × Rho)) : ∃ ps2 ys2 K q, GS N x o ps2 ys2 K q ∧ f_L_c17 N xs L x o (iN i) M r kk = kk K q := by
  obtain ⟨ps2, ys2, z3, z6, h1, h2, G2, h3⟩ := op_feast (a := xs (i + 1)) (b := xs (i + 2)) G (by omega)
  refine ⟨ps2, ys2, z3.2, z6.2, G2, ?_⟩
  unfold f_L_c17
  rw [sld_1 hi hL, ob, sld_2 hi hL, ob, h1, ob, ob, ob, h2, ob]
  exact h3 kk
theorem case_18 (G : GS N x o ps ys M r) (hN : 20000 ≤ N) (hi : i + 6 ≤ L) (hL : L ≤ 100000) (kk : Mem → Rho → Option (Mem × Rho)) : ∃ ps2 ys2 K q, GS N x o ps2 ys2 K q ∧ f_L_c18 N xs L x o (iN i) M r kk = kk K q := by
  obtain ⟨ps2, ys2, z3, z6, h1, h2, G2, h3⟩ := op_expected (a := xs (i + 1)) (b := xs (i + 2)) G (by omega)
  refine ⟨ps2, ys2, z3.2, z6.2, G2, ?_⟩
  unfold f_L_c18
  rw [sld_1 hi hL, ob, sld_2 hi hL, ob, h1, ob, ob, ob, h2, ob]
  exact h3 kk
theorem case_19 (G : GS N x o ps ys M r) (hN : 20000 ≤ N) (hi : i + 6 ≤ L) (hL : L ≤ 100000) (kk : Mem → Rho → Option (Mem × Rho)) : ∃ ps2 ys2 K q, GS N x o ps2 ys2 K q ∧ f_L_c19 N xs L x o (iN i) M r kk = kk K q := by
  obtain ⟨ps2, ys2, z3, z6, h1, h2, G2, h3⟩ := op_best (a := xs (i + 1)) G (by omega)
  refine ⟨ps2, ys2, z3.2, z6.2, G2, ?_⟩
  unfold f_L_c19
  rw [sld_1 hi hL, ob, h1, ob, ob, h2, ob]
  exact h3 kk
theorem case_20 (G : GS N x o ps ys M r) (hN : 20000 ≤ N) (hi : i + 6 ≤ L) (hL : L ≤ 100000) (kk : Mem → Rho → Option (Mem × Rho)) : ∃ ps2 ys2 K q, GS N x o ps2 ys2 K q ∧ f_L_c20 N xs L x o (iN i) M r kk = kk K q := by
  obtain ⟨v, q, h1, h2, G2⟩ := op_safest (a := bz (xs (i + 1))) G (by omega)
  refine ⟨ps, ys, M, q, G2, ?_⟩
  unfold f_L_c20
  rw [sld_1 hi hL, ob, G.A.c, ob, h1, ob, ob, h2, ob, if_pos rfl]
theorem case_21 (G : GS N x o ps ys M r) (hN : 20000 ≤ N) (hi : i + 6 ≤ L) (hL : L ≤ 100000) (kk : Mem → Rho → Option (Mem × Rho)) : ∃ ps2 ys2 K q, GS N x o ps2 ys2 K q ∧ f_L_c21 N xs L x o (iN i) M r kk = kk K q := by
  obtain ⟨ps2, ys2, z3, z6, h1, h2, G2, h3⟩ := op_odds (a := xs (i + 1)) (b := xs (i + 2)) G (by omega)
  refine ⟨ps2, ys2, z3.2, z6.2, G2, ?_⟩
  unfold f_L_c21
  rw [sld_1 hi hL, ob, sld_2 hi hL, ob, h1, ob, ob, ob, h2, ob]
  exact h3 kk
theorem case_22 (G : GS N x o ps ys M r) (hN : 20000 ≤ N) (hi : i + 6 ≤ L) (hL : L ≤ 100000) (kk : Mem → Rho → Option (Mem × Rho)) : ∃ ps2 ys2 K q, GS N x o ps2 ys2 K q ∧ f_L_c22 N xs L x o (iN i) M r kk = kk K q := by
  obtain ⟨ps2, ys2, z3, z6, h1, h2, G2, h3⟩ := op_from (a := bz (xs (i + 1))) G (by omega)
  refine ⟨ps2, ys2, z3.2, z6.2, G2, ?_⟩
  unfold f_L_c22
  rw [sld_1 hi hL, ob, h1, ob, ob, h2, ob]
  exact h3 kk
theorem case_23 (G : GS N x o ps ys M r) (hN : 20000 ≤ N) (hi : i + 6 ≤ L) (hL : L ≤ 100000) (kk : Mem → Rho → Option (Mem × Rho)) : ∃ ps2 ys2 K q, GS N x o ps2 ys2 K q ∧ f_L_c23 N xs L x o (iN i) M r kk = kk K q := by
  obtain ⟨v, q, h1, h2, G2⟩ := op_worth G (by omega)
  refine ⟨ps, ys, M, q, G2, ?_⟩
  unfold f_L_c23
  rw [G.A.c, ob, h1, ob, h2, ob, if_pos rfl]
theorem case_24 (G : GS N x o ps ys M r) (hN : 20000 ≤ N) (hi : i + 6 ≤ L) (hL : L ≤ 100000) (kk : Mem → Rho → Option (Mem × Rho)) : ∃ ps2 ys2 K q, GS N x o ps2 ys2 K q ∧ f_L_c24 N xs L x o (iN i) M r kk = kk K q := by
  obtain ⟨ps2, ys2, z3, z6, h1, h2, G2, h3⟩ := op_rests (a := xs (i + 1)) (b := xs (i + 2)) G (by omega)
  refine ⟨ps2, ys2, z3.2, z6.2, G2, ?_⟩
  unfold f_L_c24
  rw [sld_1 hi hL, ob, sld_2 hi hL, ob, h1, ob, ob, ob, h2, ob]
  exact h3 kk
theorem case_25 (G : GS N x o ps ys M r) (hN : 20000 ≤ N) (hi : i + 6 ≤ L) (hL : L ≤ 100000) (kk : Mem → Rho → Option (Mem × Rho)) : ∃ ps2 ys2 K q, GS N x o ps2 ys2 K q ∧ f_L_c25 N xs L x o (iN i) M r kk = kk K q := by
  obtain ⟨ps2, ys2, z3, z6, h1, h2, G2, h3⟩ := op_sake (a := xs (i + 1)) (b := xs (i + 2)) (c := bz (xs (i + 3))) G (by omega)
  refine ⟨ps2, ys2, z3.2, z6.2, G2, ?_⟩
  unfold f_L_c25
  rw [sld_1 hi hL, ob, sld_2 hi hL, ob, sld_3 hi hL, ob, h1, ob, ob, ob, ob, h2, ob]
  exact h3 kk
theorem case_26 (G : GS N x o ps ys M r) (hN : 20000 ≤ N) (hi : i + 6 ≤ L) (hL : L ≤ 100000) (kk : Mem → Rho → Option (Mem × Rho)) : ∃ ps2 ys2 K q, GS N x o ps2 ys2 K q ∧ f_L_c26 N xs L x o (iN i) M r kk = kk K q := by
  obtain ⟨ps2, ys2, v, K, q, h1, h2, G2⟩ := op_table (a := xs (i + 1)) (b := xs (i + 2)) G (by omega)
  refine ⟨ps2, ys2, K, q, G2, ?_⟩
  unfold f_L_c26
  rw [sld_1 hi hL, ob, sld_2 hi hL, ob, G.A.c, ob, h1, ob, ob, ob, h2, ob, if_pos rfl]
theorem case_27 (G : GS N x o ps ys M r) (hN : 20000 ≤ N) (hi : i + 6 ≤ L) (hL : L ≤ 100000) (kk : Mem → Rho → Option (Mem × Rho)) : ∃ ps2 ys2 K q, GS N x o ps2 ys2 K q ∧ f_L_c27 N xs L x o (iN i) M r kk = kk K q := by
  obtain ⟨v, q, h1, h2, G2⟩ := op_pairs (a := bz (xs (i + 1))) G (by omega)
  refine ⟨ps, ys, M, q, G2, ?_⟩
  unfold f_L_c27
  rw [sld_1 hi hL, ob, G.A.c, ob, h1, ob, ob, h2, ob, if_pos rfl]
theorem case_28 (G : GS N x o ps ys M r) (hN : 20000 ≤ N) (hi : i + 6 ≤ L) (hL : L ≤ 100000) (kk : Mem → Rho → Option (Mem × Rho)) : ∃ ps2 ys2 K q, GS N x o ps2 ys2 K q ∧ f_L_c28 N xs L x o (iN i) M r kk = kk K q := by
  obtain ⟨ps2, ys2, z3, z6, h1, h2, G2, h3⟩ := op_begins (a := xs (i + 1)) G (by omega)
  refine ⟨ps2, ys2, z3.2, z6.2, G2, ?_⟩
  unfold f_L_c28
  rw [sld_1 hi hL, ob, h1, ob, ob, h2, ob]
  exact h3 kk
theorem case_29 (G : GS N x o ps ys M r) (hN : 20000 ≤ N) (hi : i + 6 ≤ L) (hL : L ≤ 100000) (kk : Mem → Rho → Option (Mem × Rho)) : ∃ ps2 ys2 K q, GS N x o ps2 ys2 K q ∧ f_L_c29 N xs L x o (iN i) M r kk = kk K q := by
  obtain ⟨ps2, ys2, z3, z6, h1, h2, G2, h3⟩ := op_after (a := xs (i + 1)) (b := xs (i + 2)) G (by omega)
  refine ⟨ps2, ys2, z3.2, z6.2, G2, ?_⟩
  unfold f_L_c29
  rw [sld_1 hi hL, ob, sld_2 hi hL, ob, h1, ob, ob, ob, h2, ob]
  exact h3 kk
theorem case_30 (G : GS N x o ps ys M r) (hN : 20000 ≤ N) (hi : i + 6 ≤ L) (hL : L ≤ 100000) (kk : Mem → Rho → Option (Mem × Rho)) : ∃ ps2 ys2 K q, GS N x o ps2 ys2 K q ∧ f_L_c30 N xs L x o (iN i) M r kk = kk K q := by
  obtain ⟨ps2, ys2, z3, z6, h1, h2, G2, h3⟩ := op_custom (a := xs (i + 1)) (b := xs (i + 2)) G (by omega)
  refine ⟨ps2, ys2, z3.2, z6.2, G2, ?_⟩
  unfold f_L_c30
  rw [sld_1 hi hL, ob, sld_2 hi hL, ob, h1, ob, ob, ob, h2, ob]
  exact h3 kk
theorem case_31 (G : GS N x o ps ys M r) (hN : 20000 ≤ N) (hi : i + 6 ≤ L) (hL : L ≤ 100000) (kk : Mem → Rho → Option (Mem × Rho)) : ∃ ps2 ys2 K q, GS N x o ps2 ys2 K q ∧ f_L_c31 N xs L x o (iN i) M r kk = kk K q := by
  obtain ⟨ps2, ys2, v, K, q, h1, h2, G2⟩ := op_still G (by omega)
  refine ⟨ps2, ys2, K, q, G2, ?_⟩
  unfold f_L_c31
  rw [G.A.c, ob, h1, ob, h2, ob, if_pos rfl]
theorem case_32 (G : GS N x o ps ys M r) (hN : 20000 ≤ N) (hi : i + 6 ≤ L) (hL : L ≤ 100000) (kk : Mem → Rho → Option (Mem × Rho)) : ∃ ps2 ys2 K q, GS N x o ps2 ys2 K q ∧ f_L_c32 N xs L x o (iN i) M r kk = kk K q := by
  obtain ⟨ps2, ys2, z3, z6, h1, h2, G2, h3⟩ := op_told (a := xs (i + 1)) (b := xs (i + 2)) G (by omega)
  refine ⟨ps2, ys2, z3.2, z6.2, G2, ?_⟩
  unfold f_L_c32
  rw [sld_1 hi hL, ob, sld_2 hi hL, ob, h1, ob, ob, ob, h2, ob]
  exact h3 kk
theorem case_33 (G : GS N x o ps ys M r) (hN : 20000 ≤ N) (hi : i + 6 ≤ L) (hL : L ≤ 100000) (kk : Mem → Rho → Option (Mem × Rho)) : ∃ ps2 ys2 K q, GS N x o ps2 ys2 K q ∧ f_L_c33 N xs L x o (iN i) M r kk = kk K q := by
  obtain ⟨ps2, ys2, z3, z6, h1, h2, G2, h3⟩ := op_colds (a := xs (i + 1)) (b := xs (i + 2)) G (by omega)
  refine ⟨ps2, ys2, z3.2, z6.2, G2, ?_⟩
  unfold f_L_c33
  rw [sld_1 hi hL, ob, sld_2 hi hL, ob, h1, ob, ob, ob, h2, ob]
  exact h3 kk
theorem case_34 (G : GS N x o ps ys M r) (hN : 20000 ≤ N) (hi : i + 6 ≤ L) (hL : L ≤ 100000) (kk : Mem → Rho → Option (Mem × Rho)) : ∃ ps2 ys2 K q, GS N x o ps2 ys2 K q ∧ f_L_c34 N xs L x o (iN i) M r kk = kk K q := by
  obtain ⟨ps2, ys2, z3, z6, h1, h2, G2, h3⟩ := op_spared (a := xs (i + 1)) (b := xs (i + 2)) G (by omega)
  refine ⟨ps2, ys2, z3.2, z6.2, G2, ?_⟩
  unfold f_L_c34
  rw [sld_1 hi hL, ob, sld_2 hi hL, ob, h1, ob, ob, ob, h2, ob]
  exact h3 kk
theorem case_35 (G : GS N x o ps ys M r) (hN : 20000 ≤ N) (hi : i + 6 ≤ L) (hL : L ≤ 100000) (kk : Mem → Rho → Option (Mem × Rho)) : ∃ ps2 ys2 K q, GS N x o ps2 ys2 K q ∧ f_L_c35 N xs L x o (iN i) M r kk = kk K q := by
  obtain ⟨v, q, h1, h2, G2⟩ := op_changed (a := bz (xs (i + 1))) G (by omega)
  refine ⟨ps, ys, M, q, G2, ?_⟩
  unfold f_L_c35
  rw [sld_1 hi hL, ob, G.A.c, ob, h1, ob, ob, h2, ob, if_pos rfl]
theorem case_36 (G : GS N x o ps ys M r) (hN : 20000 ≤ N) (hi : i + 6 ≤ L) (hL : L ≤ 100000) (kk : Mem → Rho → Option (Mem × Rho)) : ∃ ps2 ys2 K q, GS N x o ps2 ys2 K q ∧ f_L_c36 N xs L x o (iN i) M r kk = kk K q := by
  obtain ⟨ps2, ys2, z3, z6, h1, h2, G2, h3⟩ := op_trial (a := xs (i + 1)) (b := xs (i + 2)) G (by omega)
  refine ⟨ps2, ys2, z3.2, z6.2, G2, ?_⟩
  unfold f_L_c36
  rw [sld_1 hi hL, ob, sld_2 hi hL, ob, h1, ob, ob, ob, h2, ob]
  exact h3 kk
theorem case_37 (G : GS N x o ps ys M r) (hN : 20000 ≤ N) (hi : i + 6 ≤ L) (hL : L ≤ 100000) (kk : Mem → Rho → Option (Mem × Rho)) : ∃ ps2 ys2 K q, GS N x o ps2 ys2 K q ∧ f_L_c37 N xs L x o (iN i) M r kk = kk K q := by
  obtain ⟨ps2, ys2, z3, z6, h1, h2, G2, h3⟩ := op_span (a := xs (i + 1)) (b := bz (xs (i + 2))) G (by omega)
  refine ⟨ps2, ys2, z3.2, z6.2, G2, ?_⟩
  unfold f_L_c37
  rw [sld_1 hi hL, ob, sld_2 hi hL, ob, h1, ob, ob, ob, h2, ob]
  exact h3 kk
theorem case_38 (G : GS N x o ps ys M r) (hN : 20000 ≤ N) (hi : i + 6 ≤ L) (hL : L ≤ 100000) (kk : Mem → Rho → Option (Mem × Rho)) : ∃ ps2 ys2 K q, GS N x o ps2 ys2 K q ∧ f_L_c38 N xs L x o (iN i) M r kk = kk K q := by
  obtain ⟨ps2, ys2, z3, z6, h1, h2, G2, h3⟩ := op_log (a := xs (i + 1)) (b := xs (i + 2)) G
  refine ⟨ps2, ys2, z3.2, z6.2, G2, ?_⟩
  unfold f_L_c38
  rw [sld_1 hi hL, ob, sld_2 hi hL, ob, h1, ob, ob, ob, h2, ob]
  exact h3 kk
theorem case_39 (G : GS N x o ps ys M r) (hN : 20000 ≤ N) (hi : i + 6 ≤ L) (hL : L ≤ 100000) (kk : Mem → Rho → Option (Mem × Rho)) : ∃ ps2 ys2 K q, GS N x o ps2 ys2 K q ∧ f_L_c39 N xs L x o (iN i) M r kk = kk K q := by
  obtain ⟨v, K, q, h1, h2, G2⟩ := op_seed (a := xs (i + 1)) G
  refine ⟨ps, ys, K, q, G2, ?_⟩
  unfold f_L_c39
  rw [sld_1 hi hL, ob, G.A.c, ob, h1, ob, ob, h2, ob, if_pos rfl]
theorem case_40 (G : GS N x o ps ys M r) (hN : 20000 ≤ N) (hi : i + 6 ≤ L) (hL : L ≤ 100000) (kk : Mem → Rho → Option (Mem × Rho)) : ∃ ps2 ys2 K q, GS N x o ps2 ys2 K q ∧ f_L_c40 N xs L x o (iN i) M r kk = kk K q := by
  obtain ⟨ps2, ys2, v, K, q, h1, h2, G2⟩ := op_undo G (by omega)
  refine ⟨ps2, ys2, K, q, G2, ?_⟩
  unfold f_L_c40
  rw [G.A.c, ob, h1, ob, h2, ob, if_pos rfl]
theorem case_41 (G : GS N x o ps ys M r) (hN : 20000 ≤ N) (hi : i + 6 ≤ L) (hL : L ≤ 100000) (kk : Mem → Rho → Option (Mem × Rho)) : ∃ ps2 ys2 K q, GS N x o ps2 ys2 K q ∧ f_L_c41 N xs L x o (iN i) M r kk = kk K q := by
  obtain ⟨K, q, h1, h2, G2⟩ := op_image G (by omega)
  refine ⟨ps, ys, K, q, G2, ?_⟩
  unfold f_L_c41
  rw [G.A.c, ob, h1, ob, h2, ob]
theorem case_42 (G : GS N x o ps ys M r) (hN : 20000 ≤ N) (hi : i + 6 ≤ L) (hL : L ≤ 100000) (kk : Mem → Rho → Option (Mem × Rho)) : ∃ ps2 ys2 K q, GS N x o ps2 ys2 K q ∧ f_L_c42 N xs L x o (iN i) M r kk = kk K q := by
  obtain ⟨ps2, ys2, v, K, q, h1, h2, G2⟩ := op_back G (by omega)
  refine ⟨ps2, ys2, K, q, G2, ?_⟩
  unfold f_L_c42
  rw [G.A.c, ob, h1, ob, h2, ob, if_pos rfl]
theorem case_43 (G : GS N x o ps ys M r) (hN : 20000 ≤ N) (hi : i + 6 ≤ L) (hL : L ≤ 100000) (kk : Mem → Rho → Option (Mem × Rho)) : ∃ ps2 ys2 K q, GS N x o ps2 ys2 K q ∧ f_L_c43 N xs L x o (iN i) M r kk = kk K q := by
  obtain ⟨v, q, h1, h2, G2⟩ := op_count (a := xs (i + 1)) G (by omega)
  refine ⟨ps, ys, M, q, G2, ?_⟩
  unfold f_L_c43
  rw [sld_1 hi hL, ob, G.A.c, ob, h1, ob, ob, h2, ob, if_pos rfl]
theorem bz_or (v : Int32) : bz v = 0 ∨ bz v = 1 := by
  unfold bz
  by_cases h : v = 0
  · rw [if_pos h]; exact Or.inl rfl
  · rw [if_neg h]; exact Or.inr rfl
theorem case_14 (G : GS N x o ps ys M r) (hN : 20000 ≤ N) (hi : i + 6 ≤ L) (hL : L ≤ 100000) (kk : Mem → Rho → Option (Mem × Rho)) : ∃ ps2 ys2 K q, GS N x o ps2 ys2 K q ∧ f_L_c14 N xs L x o (iN i) M r kk = kk K q := by
  obtain ⟨ps2, z3, z6, h1, h2, G2, h3⟩ := op_cold (a := xs (i + 1)) (b := bz (xs (i + 2))) G (by omega) (bz_or _)
  refine ⟨ps2, ys, z3.2, z6.2, G2, ?_⟩
  unfold f_L_c14
  rw [sld_1 hi hL, ob, sld_2 hi hL, ob, h1, ob, ob, ob, h2, ob]
  exact h3 kk
/-- one turn goes on, with the state as it should be -/
def TurnOK (N : Nat) (x o : Nat) (f : Mem → Rho → (Mem → Rho → Option (Mem × Rho)) → Option (Mem × Rho)) : Prop := ∀ ps ys M r, GS N x o ps ys M r → ∀ kk, ∃ ps2 ys2 K q, GS N x o ps2 ys2 K q ∧ f M r kk = kk K q
theorem step_ok (hN : 20000 ≤ N) (hi : i + 6 ≤ L) (hL : L ≤ 100000)  : TurnOK N x o (f_L_step N xs L x o (iN i)) := by
  intro ps ys M r G kk
  unfold f_L_step
  rw [sld_0 hi hL, ob]
  generalize xs i &&& 63 = v
  by_cases c0 : v = 0
  · rw [if_pos c0]
    exact case_0 G hN hi hL kk
  rw [if_neg c0]
  by_cases c1 : v = 1
  · rw [if_pos c1]
    exact case_1 G hN hi hL kk
  rw [if_neg c1]
  by_cases c2 : v = 2
  · rw [if_pos c2]
    exact case_2 G hN hi hL kk
  rw [if_neg c2]
  by_cases c3 : v = 3
  · rw [if_pos c3]
    exact case_3 G hN hi hL kk
  rw [if_neg c3]
  by_cases c4 : v = 4
  · rw [if_pos c4]
    exact case_4 G hN hi hL kk
  rw [if_neg c4]
  by_cases c5 : v = 5
  · rw [if_pos c5]
    exact case_5 G hN hi hL kk
  rw [if_neg c5]
  by_cases c6 : v = 6
  · rw [if_pos c6]
    exact case_6 G hN hi hL kk
  rw [if_neg c6]
  by_cases c7 : v = 7
  · rw [if_pos c7]
    exact case_7 G hN hi hL kk
  rw [if_neg c7]
  by_cases c8 : v = 8
  · rw [if_pos c8]
    exact case_8 G hN hi hL kk
  rw [if_neg c8]
  by_cases c9 : v = 9
  · rw [if_pos c9]
    exact case_9 G hN hi hL kk
  rw [if_neg c9]
  by_cases c10 : v = 10
  · rw [if_pos c10]
    exact case_10 G hN hi hL kk
  rw [if_neg c10]
  by_cases c11 : v = 11
  · rw [if_pos c11]
    exact case_11 G hN hi hL kk
  rw [if_neg c11]
  by_cases c12 : v = 12
  · rw [if_pos c12]
    exact case_12 G hN hi hL kk
  rw [if_neg c12]
  by_cases c13 : v = 13
  · rw [if_pos c13]
    exact case_13 G hN hi hL kk
  rw [if_neg c13]
  by_cases c14 : v = 14
  · rw [if_pos c14]
    exact case_14 G hN hi hL kk
  rw [if_neg c14]
  by_cases c15 : v = 15
  · rw [if_pos c15]
    exact case_15 G hN hi hL kk
  rw [if_neg c15]
  by_cases c16 : v = 16
  · rw [if_pos c16]
    exact case_16 G hN hi hL kk
  rw [if_neg c16]
  by_cases c17 : v = 17
  · rw [if_pos c17]
    exact case_17 G hN hi hL kk
  rw [if_neg c17]
  by_cases c18 : v = 18
  · rw [if_pos c18]
    exact case_18 G hN hi hL kk
  rw [if_neg c18]
  by_cases c19 : v = 19
  · rw [if_pos c19]
    exact case_19 G hN hi hL kk
  rw [if_neg c19]
  by_cases c20 : v = 20
  · rw [if_pos c20]
    exact case_20 G hN hi hL kk
  rw [if_neg c20]
  by_cases c21 : v = 21
  · rw [if_pos c21]
    exact case_21 G hN hi hL kk
  rw [if_neg c21]
  by_cases c22 : v = 22
  · rw [if_pos c22]
    exact case_22 G hN hi hL kk
  rw [if_neg c22]
  by_cases c23 : v = 23
  · rw [if_pos c23]
    exact case_23 G hN hi hL kk
  rw [if_neg c23]
  by_cases c24 : v = 24
  · rw [if_pos c24]
    exact case_24 G hN hi hL kk
  rw [if_neg c24]
  by_cases c25 : v = 25
  · rw [if_pos c25]
    exact case_25 G hN hi hL kk
  rw [if_neg c25]
  by_cases c26 : v = 26
  · rw [if_pos c26]
    exact case_26 G hN hi hL kk
  rw [if_neg c26]
  by_cases c27 : v = 27
  · rw [if_pos c27]
    exact case_27 G hN hi hL kk
  rw [if_neg c27]
  by_cases c28 : v = 28
  · rw [if_pos c28]
    exact case_28 G hN hi hL kk
  rw [if_neg c28]
  by_cases c29 : v = 29
  · rw [if_pos c29]
    exact case_29 G hN hi hL kk
  rw [if_neg c29]
  by_cases c30 : v = 30
  · rw [if_pos c30]
    exact case_30 G hN hi hL kk
  rw [if_neg c30]
  by_cases c31 : v = 31
  · rw [if_pos c31]
    exact case_31 G hN hi hL kk
  rw [if_neg c31]
  by_cases c32 : v = 32
  · rw [if_pos c32]
    exact case_32 G hN hi hL kk
  rw [if_neg c32]
  by_cases c33 : v = 33
  · rw [if_pos c33]
    exact case_33 G hN hi hL kk
  rw [if_neg c33]
  by_cases c34 : v = 34
  · rw [if_pos c34]
    exact case_34 G hN hi hL kk
  rw [if_neg c34]
  by_cases c35 : v = 35
  · rw [if_pos c35]
    exact case_35 G hN hi hL kk
  rw [if_neg c35]
  by_cases c36 : v = 36
  · rw [if_pos c36]
    exact case_36 G hN hi hL kk
  rw [if_neg c36]
  by_cases c37 : v = 37
  · rw [if_pos c37]
    exact case_37 G hN hi hL kk
  rw [if_neg c37]
  by_cases c38 : v = 38
  · rw [if_pos c38]
    exact case_38 G hN hi hL kk
  rw [if_neg c38]
  by_cases c39 : v = 39
  · rw [if_pos c39]
    exact case_39 G hN hi hL kk
  rw [if_neg c39]
  by_cases c40 : v = 40
  · rw [if_pos c40]
    exact case_40 G hN hi hL kk
  rw [if_neg c40]
  by_cases c41 : v = 41
  · rw [if_pos c41]
    exact case_41 G hN hi hL kk
  rw [if_neg c41]
  by_cases c42 : v = 42
  · rw [if_pos c42]
    exact case_42 G hN hi hL kk
  rw [if_neg c42]
  by_cases c43 : v = 43
  · rw [if_pos c43]
    exact case_43 G hN hi hL kk
  rw [if_neg c43]
  exact ⟨ps, ys, M, r, G, rfl⟩
theorem neg_6 : ∀ k : Fin 6, iN k.val - 6 < 0 := by decide
theorem loop_ok (hL : L ≤ 100000) (H : ∀ i, i + 6 ≤ L → TurnOK N x o (f_L_step N xs L x o (iN i))) : ∀ (fuel i : Nat) (ps ys : Nat → Nat) (M : Mem) (r : Rho), 1 ≤ fuel → L + 1 ≤ i + 6 * fuel → i ≤ 200000 → GS N x o ps ys M r → ∃ z, f_L_loop N xs L x o fuel (iN i) M r = some z := by
  intro fuel
  induction fuel with
  | zero => intro i ps ys M r h; omega
  | succ n ih =>
    intro i ps ys M r h1 h2 h3 G
    rw [f_L_loop]
    by_cases h : L < i + 6
    · refine ⟨(M, r), if_pos ?_⟩
      by_cases h6 : L < 6
      · exact Int32.lt_of_lt_of_le (neg_6 ⟨L, h6⟩) (Int32.not_lt.mp (iN_nn (by omega)))
      · show iN L - 6 < iN i
        rw [show iN L - 6 = iN (L - 6) from iN_sub (b := 6) (by omega)]
        exact iN_ylt (by omega) (by omega)
    · have hn : ¬ Int32.ofNat L - 6 < iN i := by
        show ¬ iN L - 6 < iN i
        rw [show iN L - 6 = iN (L - 6) from iN_sub (b := 6) (by omega)]
        exact iN_nlt (by omega) (by omega)
      rw [if_neg hn]
      obtain ⟨ps2, ys2, K, q, G2, e⟩ := H i (by omega) ps ys M r G (fun M r => f_L_loop N xs L x o n (iN i + 6) M r)
      rw [e, show iN i + 6 = iN (i + 6) from iN_add i 6]
      exact ih (i + 6) ps2 ys2 K q (by omega) (by omega) (by omega) G2
end Ca
