section Ca
variable {N x o i L : Nat} {ps ys : Nat → Nat} {M : Mem} {r : Rho} {xs : Nat → Int32}
theorem sld_0 (hi : i + 6 ≤ L) (hL : L ≤ 100000) : sld xs L (iN i) = some (xs i) := by
  unfold sld
  rw [if_pos (inR_iN (by omega) (by omega)), iN_cl (by omega)]
theorem sld_1 (hi : i + 6 ≤ L) (hL : L ≤ 100000) : sld xs L (iN i + 1) = some (xs (i + 1)) := by
  rw [show iN i + 1 = iN (i + 1) from iN_add i 1]
  unfold sld
  rw [if_pos (inR_iN (by omega) (by omega)), iN_cl (by omega)]
theorem sld_2 (hi : i + 6 ≤ L) (hL : L ≤ 100000) : sld xs L (iN i + 2) = some (xs (i + 2)) := by
  rw [show iN i + 2 = iN (i + 2) from iN_add i 2]
  unfold sld
  rw [if_pos (inR_iN (by omega) (by omega)), iN_cl (by omega)]
theorem sld_3 (hi : i + 6 ≤ L) (hL : L ≤ 100000) : sld xs L (iN i + 3) = some (xs (i + 3)) := by
  rw [show iN i + 3 = iN (i + 3) from iN_add i 3]
  unfold sld
  rw [if_pos (inR_iN (by omega) (by omega)), iN_cl (by omega)]
theorem sld_4 (hi : i + 6 ≤ L) (hL : L ≤ 100000) : sld xs L (iN i + 4) = some (xs (i + 4)) := by
  rw [show iN i + 4 = iN (i + 4) from iN_add i 4]
  unfold sld
  rw [if_pos (inR_iN (by omega) (by omega)), iN_cl (by omega)]
theorem sld_5 (hi : i + 6 ≤ L) (hL : L ≤ 100000) : sld xs L (iN i + 5) = some (xs (i + 5)) := by
  rw [show iN i + 5 = iN (i + 5) from iN_add i 5]
  unfold sld
  rw [if_pos (inR_iN (by omega) (by omega)), iN_cl (by omega)]
theorem case_0 (G : GS N x o ps ys M r) (hN : 20000 ≤ N) (hi : i + 6 ≤ L) (hL : L ≤ 100000) (kk : Mem → Rho → Option (Mem × Rho)) : ∃ ps2 ys2 K q, GS N x o ps2 ys2 K q ∧ f_L_c0 N xs L x o (iN i) M r kk = kk K q := by
  obtain ⟨v, K, q, h1, h2, G2⟩ := op_feed (a := xs (i + 1)) (b := xs (i + 2)) (c := xs (i + 3)) (d := xs (i + 4)) (e := xs (i + 5)) G (by omega)
  refine ⟨ps, ys, K, q, G2, ?_⟩
  unfold f_L_c0
  rw [sld_1 hi hL, ob, sld_2 hi hL, ob, sld_3 hi hL, ob, sld_4 hi hL, ob, sld_5 hi hL, ob, G.A.c, ob, h1, ob, ob, ob, ob, ob, ob, h2, ob, if_pos rfl]
theorem case_1 (G : GS N x o ps ys M r) (hN : 20000 ≤ N) (hi : i + 6 ≤ L) (hL : L ≤ 100000) (kk : Mem → Rho → Option (Mem × Rho)) : ∃ ps2 ys2 K q, GS N x o ps2 ys2 K q ∧ f_L_c1 N xs L x o (iN i) M r kk = kk K q := by
  obtain ⟨v, K, q, h1, h2, G2⟩ := op_end (a := xs (i + 1)) G
  refine ⟨ps, ys, K, q, G2, ?_⟩
  unfold f_L_c1
  rw [sld_1 hi hL, ob, G.A.c, ob, h1, ob, ob, h2, ob, if_pos rfl]
theorem case_4 (G : GS N x o ps ys M r) (hN : 20000 ≤ N) (hi : i + 6 ≤ L) (hL : L ≤ 100000) (kk : Mem → Rho → Option (Mem × Rho)) : ∃ ps2 ys2 K q, GS N x o ps2 ys2 K q ∧ f_L_c4 N xs L x o (iN i) M r kk = kk K q := by
  obtain ⟨v, q, h1, h2, G2⟩ := op_fault G
  refine ⟨ps, ys, M, q, G2, ?_⟩
  unfold f_L_c4
  rw [G.A.c, ob, h1, ob, h2, ob, if_pos rfl]
theorem case_5 (G : GS N x o ps ys M r) (hN : 20000 ≤ N) (hi : i + 6 ≤ L) (hL : L ≤ 100000) (kk : Mem → Rho → Option (Mem × Rho)) : ∃ ps2 ys2 K q, GS N x o ps2 ys2 K q ∧ f_L_c5 N xs L x o (iN i) M r kk = kk K q := by
  obtain ⟨ps2, ys2, z3, z6, h1, h2, G2, h3⟩ := op_cost (a := xs (i + 1)) (b := xs (i + 2)) G
  refine ⟨ps2, ys2, z3.2, z6.2, G2, ?_⟩
  unfold f_L_c5
  rw [sld_1 hi hL, ob, sld_2 hi hL, ob, h1, ob, ob, ob, h2, ob]
  exact h3 kk
theorem case_6 (G : GS N x o ps ys M r) (hN : 20000 ≤ N) (hi : i + 6 ≤ L) (hL : L ≤ 100000) (kk : Mem → Rho → Option (Mem × Rho)) : ∃ ps2 ys2 K q, GS N x o ps2 ys2 K q ∧ f_L_c6 N xs L x o (iN i) M r kk = kk K q := by
  obtain ⟨ps2, ys2, z3, z6, h1, h2, G2, h3⟩ := op_habit (a := xs (i + 1)) (b := xs (i + 2)) G (by omega)
  refine ⟨ps2, ys2, z3.2, z6.2, G2, ?_⟩
  unfold f_L_c6
  rw [sld_1 hi hL, ob, sld_2 hi hL, ob, h1, ob, ob, ob, h2, ob]
  exact h3 kk
theorem case_7 (G : GS N x o ps ys M r) (hN : 20000 ≤ N) (hi : i + 6 ≤ L) (hL : L ≤ 100000) (kk : Mem → Rho → Option (Mem × Rho)) : ∃ ps2 ys2 K q, GS N x o ps2 ys2 K q ∧ f_L_c7 N xs L x o (iN i) M r kk = kk K q := by
  obtain ⟨ps2, ys2, z3, z6, h1, h2, G2, h3⟩ := op_person (a := xs (i + 1)) (b := xs (i + 2)) G (by omega)
  refine ⟨ps2, ys2, z3.2, z6.2, G2, ?_⟩
  unfold f_L_c7
  rw [sld_1 hi hL, ob, sld_2 hi hL, ob, h1, ob, ob, ob, h2, ob]
  exact h3 kk
theorem case_8 (G : GS N x o ps ys M r) (hN : 20000 ≤ N) (hi : i + 6 ≤ L) (hL : L ≤ 100000) (kk : Mem → Rho → Option (Mem × Rho)) : ∃ ps2 ys2 K q, GS N x o ps2 ys2 K q ∧ f_L_c8 N xs L x o (iN i) M r kk = kk K q := by
  obtain ⟨ps2, ys2, z3, z6, h1, h2, G2, h3⟩ := op_saw (a := xs (i + 1)) (b := xs (i + 2)) (c := bz (xs (i + 3))) G
  refine ⟨ps2, ys2, z3.2, z6.2, G2, ?_⟩
  unfold f_L_c8
  rw [sld_1 hi hL, ob, sld_2 hi hL, ob, sld_3 hi hL, ob, h1, ob, ob, ob, ob, h2, ob]
  exact h3 kk
theorem case_9 (G : GS N x o ps ys M r) (hN : 20000 ≤ N) (hi : i + 6 ≤ L) (hL : L ≤ 100000) (kk : Mem → Rho → Option (Mem × Rho)) : ∃ ps2 ys2 K q, GS N x o ps2 ys2 K q ∧ f_L_c9 N xs L x o (iN i) M r kk = kk K q := by
  obtain ⟨ps2, ys2, z3, z6, h1, h2, G2, h3⟩ := op_tie (a := xs (i + 1)) (b := bz (xs (i + 2))) G
  refine ⟨ps2, ys2, z3.2, z6.2, G2, ?_⟩
  unfold f_L_c9
  rw [sld_1 hi hL, ob, sld_2 hi hL, ob, h1, ob, ob, ob, h2, ob]
  exact h3 kk
theorem case_10 (G : GS N x o ps ys M r) (hN : 20000 ≤ N) (hi : i + 6 ≤ L) (hL : L ≤ 100000) (kk : Mem → Rho → Option (Mem × Rho)) : ∃ ps2 ys2 K q, GS N x o ps2 ys2 K q ∧ f_L_c10 N xs L x o (iN i) M r kk = kk K q := by
  obtain ⟨ps2, ys2, z3, z6, h1, h2, G2, h3⟩ := op_will (a := xs (i + 1)) (b := xs (i + 2)) G (by omega)
  refine ⟨ps2, ys2, z3.2, z6.2, G2, ?_⟩
  unfold f_L_c10
  rw [sld_1 hi hL, ob, sld_2 hi hL, ob, h1, ob, ob, ob, h2, ob]
  exact h3 kk
theorem case_11 (G : GS N x o ps ys M r) (hN : 20000 ≤ N) (hi : i + 6 ≤ L) (hL : L ≤ 100000) (kk : Mem → Rho → Option (Mem × Rho)) : ∃ ps2 ys2 K q, GS N x o ps2 ys2 K q ∧ f_L_c11 N xs L x o (iN i) M r kk = kk K q := by
  obtain ⟨ps2, ys2, z3, z6, h1, h2, G2, h3⟩ := op_meet (a := xs (i + 1)) (b := xs (i + 2)) G (by omega)
  refine ⟨ps2, ys2, z3.2, z6.2, G2, ?_⟩
  unfold f_L_c11
  rw [sld_1 hi hL, ob, sld_2 hi hL, ob, h1, ob, ob, ob, h2, ob]
  exact h3 kk
theorem case_12 (G : GS N x o ps ys M r) (hN : 20000 ≤ N) (hi : i + 6 ≤ L) (hL : L ≤ 100000) (kk : Mem → Rho → Option (Mem × Rho)) : ∃ ps2 ys2 K q, GS N x o ps2 ys2 K q ∧ f_L_c12 N xs L x o (iN i) M r kk = kk K q := by
  obtain ⟨ps2, ys2, z3, z6, h1, h2, G2, h3⟩ := op_rounds (a := xs (i + 1)) G (by omega)
  refine ⟨ps2, ys2, z3.2, z6.2, G2, ?_⟩
  unfold f_L_c12
  rw [sld_1 hi hL, ob, h1, ob, ob, h2, ob]
  exact h3 kk
theorem case_13 (G : GS N x o ps ys M r) (hN : 20000 ≤ N) (hi : i + 6 ≤ L) (hL : L ≤ 100000) (kk : Mem → Rho → Option (Mem × Rho)) : ∃ ps2 ys2 K q, GS N x o ps2 ys2 K q ∧ f_L_c13 N xs L x o (iN i) M r kk = kk K q := by
  obtain ⟨ps2, ys2, z3, z6, h1, h2, G2, h3⟩ := op_own (a := xs (i + 1)) (b := xs (i + 2)) G (by omega)
  refine ⟨ps2, ys2, z3.2, z6.2, G2, ?_⟩
  unfold f_L_c13
  rw [sld_1 hi hL, ob, sld_2 hi hL, ob, h1, ob, ob, ob, h2, ob]
  exact h3 kk
theorem case_15 (G : GS N x o ps ys M r) (hN : 20000 ≤ N) (hi : i + 6 ≤ L) (hL : L ≤ 100000) (kk : Mem → Rho → Option (Mem × Rho)) : ∃ ps2 ys2 K q, GS N x o ps2 ys2 K q ∧ f_L_c15 N xs L x o (iN i) M r kk = kk K q := by
  obtain ⟨ps2, ys2, z3, z6, h1, h2, G2, h3⟩ := op_ties (a := xs (i + 1)) (b := xs (i + 2)) G (by omega)
  refine ⟨ps2, ys2, z3.2, z6.2, G2, ?_⟩
  unfold f_L_c15
  rw [sld_1 hi hL, ob, sld_2 hi hL, ob, h1, ob, ob, ob, h2, ob]
  exact h3 kk
theorem case_16 (G : GS N x o ps ys M r) (hN : 20000 ≤ N) (hi : i + 6 ≤ L) (hL : L ≤ 100000) (kk : Mem → Rho → Option (Mem × Rho)) : ∃ ps2 ys2 K q, GS N x o ps2 ys2 K q ∧ f_L_c16 N xs L x o (iN i) M r kk = kk K q := by
  obtain ⟨ps2, ys2, z3, z6, h1, h2, G2, h3⟩ := op_cut (a := xs (i + 1)) G (by omega)
  refine ⟨ps2, ys2, z3.2, z6.2, G2, ?_⟩
  unfold f_L_c16
  rw [sld_1 hi hL, ob, h1, ob, ob, h2, ob]
  exact h3 kk
theorem case_17 (G : GS N x o ps ys M r) (hN : 20000 ≤ N) (hi : i + 6 ≤ L) (hL : L ≤ 100000) (kk : Mem → Rho → Option (Mem × Rho)) : ∃ ps2 ys2 K q, GS N x o ps2 ys2 K q ∧ f_L_c17 N xs L x o (iN i) M r kk = kk K q := by
  obtain ⟨ps2, ys2, z3, z6, h1, h2, G2, h3⟩ := op_feast (a := xs (i + 1)) (b := xs (i + 2)) G (by omega)
  refine ⟨ps2, ys2, z3.2, z6.2, G2, ?_⟩
  unfold f_L_c17
  rw [sld_1 hi hL, ob, sld_2 hi hL, ob, h1, ob, ob, ob, h2, ob]
  exact h3 kk
theorem case_18 (G : GS N x o ps ys M r) (hN : 20000 ≤ N) (hi : i + 6 ≤ L) (hL : L ≤ 100000) (kk : Mem → Rho → Option (Mem × Rho)) : ∃ ps2 ys2 K q, GS N x o ps2 ys2 K q ∧ f_L_c18 N xs L x o (iN i) M r kk = kk K q := by
  obtain ⟨ps2, ys2, z3, z6, h1, h2, G2, h3⟩ := op_expected (a := xs (i + 1)) (b := xs (i + 2)) G (by omega)
  refine ⟨ps2, ys2, z3.2, z6.2, G2, ?_⟩
  unfold f_L_c18
  rw [sld_1 hi hL, ob, sld_2 hi hL, ob, h1, ob, ob, ob, h2, ob]
  exact h3 kk
theorem case_19 (G : GS N x o ps ys M r) (hN : 20000 ≤ N) (hi : i + 6 ≤ L) (hL : L ≤ 100000) (kk : Mem → Rho → Option (Mem × Rho)) : ∃ ps2 ys2 K q, GS N x o ps2 ys2 K q ∧ f_L_c19 N xs L x o (iN i) M r kk = kk K q := by
  obtain ⟨ps2, ys2, z3, z6, h1, h2, G2, h3⟩ := op_best (a := xs (i + 1)) G (by omega)
  refine ⟨ps2, ys2, z3.2, z6.2, G2, ?_⟩
  unfold f_L_c19
  rw [sld_1 hi hL, ob, h1, ob, ob, h2, ob]
  exact h3 kk
theorem case_20 (G : GS N x o ps ys M r) (hN : 20000 ≤ N) (hi : i + 6 ≤ L) (hL : L ≤ 100000) (kk : Mem → Rho → Option (Mem × Rho)) : ∃ ps2 ys2 K q, GS N x o ps2 ys2 K q ∧ f_L_c20 N xs L x o (iN i) M r kk = kk K q := by
  obtain ⟨v, q, h1, h2, G2⟩ := op_safest (a := bz (xs (i + 1))) G (by omega)
  refine ⟨ps, ys, M, q, G2, ?_⟩
  unfold f_L_c20
  rw [sld_1 hi hL, ob, G.A.c, ob, h1, ob, ob, h2, ob, if_pos rfl]
theorem case_21 (G : GS N x o ps ys M r) (hN : 20000 ≤ N) (hi : i + 6 ≤ L) (hL : L ≤ 100000) (kk : Mem → Rho → Option (Mem × Rho)) : ∃ ps2 ys2 K q, GS N x o ps2 ys2 K q ∧ f_L_c21 N xs L x o (iN i) M r kk = kk K q := by
  obtain ⟨ps2, ys2, z3, z6, h1, h2, G2, h3⟩ := op_odds (a := xs (i + 1)) (b := xs (i + 2)) G (by omega)
  refine ⟨ps2, ys2, z3.2, z6.2, G2, ?_⟩
  unfold f_L_c21
  rw [sld_1 hi hL, ob, sld_2 hi hL, ob, h1, ob, ob, ob, h2, ob]
  exact h3 kk
theorem case_22 (G : GS N x o ps ys M r) (hN : 20000 ≤ N) (hi : i + 6 ≤ L) (hL : L ≤ 100000) (kk : Mem → Rho → Option (Mem × Rho)) : ∃ ps2 ys2 K q, GS N x o ps2 ys2 K q ∧ f_L_c22 N xs L x o (iN i) M r kk = kk K q := by
  obtain ⟨ps2, ys2, z3, z6, h1, h2, G2, h3⟩ := op_from (a := bz (xs (i + 1))) G (by omega)
  refine ⟨ps2, ys2, z3.2, z6.2, G2, ?_⟩
  unfold f_L_c22
  rw [sld_1 hi hL, ob, h1, ob, ob, h2, ob]
  exact h3 kk
theorem case_23 (G : GS N x o ps ys M r) (hN : 20000 ≤ N) (hi : i + 6 ≤ L) (hL : L ≤ 100000) (kk : Mem → Rho → Option (Mem × Rho)) : ∃ ps2 ys2 K q, GS N x o ps2 ys2 K q ∧ f_L_c23 N xs L x o (iN i) M r kk = kk K q := by
  obtain ⟨v, q, h1, h2, G2⟩ := op_worth G (by omega)
  refine ⟨ps, ys, M, q, G2, ?_⟩
  unfold f_L_c23
  rw [G.A.c, ob, h1, ob, h2, ob, if_pos rfl]
theorem case_24 (G : GS N x o ps ys M r) (hN : 20000 ≤ N) (hi : i + 6 ≤ L) (hL : L ≤ 100000) (kk : Mem → Rho → Option (Mem × Rho)) : ∃ ps2 ys2 K q, GS N x o ps2 ys2 K q ∧ f_L_c24 N xs L x o (iN i) M r kk = kk K q := by
  obtain ⟨ps2, ys2, z3, z6, h1, h2, G2, h3⟩ := op_rests (a := xs (i + 1)) (b := xs (i + 2)) G (by omega)
  refine ⟨ps2, ys2, z3.2, z6.2, G2, ?_⟩
  unfold f_L_c24
  rw [sld_1 hi hL, ob, sld_2 hi hL, ob, h1, ob, ob, ob, h2, ob]
  exact h3 kk
theorem case_25 (G : GS N x o ps ys M r) (hN : 20000 ≤ N) (hi : i + 6 ≤ L) (hL : L ≤ 100000) (kk : Mem → Rho → Option (Mem × Rho)) : ∃ ps2 ys2 K q, GS N x o ps2 ys2 K q ∧ f_L_c25 N xs L x o (iN i) M r kk = kk K q := by
  obtain ⟨ps2, ys2, z3, z6, h1, h2, G2, h3⟩ := op_sake (a := xs (i + 1)) (b := xs (i + 2)) (c := bz (xs (i + 3))) G (by omega)
  refine ⟨ps2, ys2, z3.2, z6.2, G2, ?_⟩
  unfold f_L_c25
  rw [sld_1 hi hL, ob, sld_2 hi hL, ob, sld_3 hi hL, ob, h1, ob, ob, ob, ob, h2, ob]
  exact h3 kk
theorem case_28 (G : GS N x o ps ys M r) (hN : 20000 ≤ N) (hi : i + 6 ≤ L) (hL : L ≤ 100000) (kk : Mem → Rho → Option (Mem × Rho)) : ∃ ps2 ys2 K q, GS N x o ps2 ys2 K q ∧ f_L_c28 N xs L x o (iN i) M r kk = kk K q := by
  obtain ⟨ps2, ys2, z3, z6, h1, h2, G2, h3⟩ := op_begins (a := xs (i + 1)) G (by omega)
  refine ⟨ps2, ys2, z3.2, z6.2, G2, ?_⟩
  unfold f_L_c28
  rw [sld_1 hi hL, ob, h1, ob, ob, h2, ob]
  exact h3 kk
theorem case_33 (G : GS N x o ps ys M r) (hN : 20000 ≤ N) (hi : i + 6 ≤ L) (hL : L ≤ 100000) (kk : Mem → Rho → Option (Mem × Rho)) : ∃ ps2 ys2 K q, GS N x o ps2 ys2 K q ∧ f_L_c33 N xs L x o (iN i) M r kk = kk K q := by
  obtain ⟨ps2, ys2, z3, z6, h1, h2, G2, h3⟩ := op_colds (a := xs (i + 1)) (b := xs (i + 2)) G (by omega)
  refine ⟨ps2, ys2, z3.2, z6.2, G2, ?_⟩
  unfold f_L_c33
  rw [sld_1 hi hL, ob, sld_2 hi hL, ob, h1, ob, ob, ob, h2, ob]
  exact h3 kk
theorem case_37 (G : GS N x o ps ys M r) (hN : 20000 ≤ N) (hi : i + 6 ≤ L) (hL : L ≤ 100000) (kk : Mem → Rho → Option (Mem × Rho)) : ∃ ps2 ys2 K q, GS N x o ps2 ys2 K q ∧ f_L_c37 N xs L x o (iN i) M r kk = kk K q := by
  obtain ⟨ps2, ys2, z3, z6, h1, h2, G2, h3⟩ := op_span (a := xs (i + 1)) (b := bz (xs (i + 2))) G (by omega)
  refine ⟨ps2, ys2, z3.2, z6.2, G2, ?_⟩
  unfold f_L_c37
  rw [sld_1 hi hL, ob, sld_2 hi hL, ob, h1, ob, ob, ob, h2, ob]
  exact h3 kk
theorem case_38 (G : GS N x o ps ys M r) (hN : 20000 ≤ N) (hi : i + 6 ≤ L) (hL : L ≤ 100000) (kk : Mem → Rho → Option (Mem × Rho)) : ∃ ps2 ys2 K q, GS N x o ps2 ys2 K q ∧ f_L_c38 N xs L x o (iN i) M r kk = kk K q := by
  obtain ⟨ps2, ys2, z3, z6, h1, h2, G2, h3⟩ := op_log (a := xs (i + 1)) (b := xs (i + 2)) G
  refine ⟨ps2, ys2, z3.2, z6.2, G2, ?_⟩
  unfold f_L_c38
  rw [sld_1 hi hL, ob, sld_2 hi hL, ob, h1, ob, ob, ob, h2, ob]
  exact h3 kk
theorem case_39 (G : GS N x o ps ys M r) (hN : 20000 ≤ N) (hi : i + 6 ≤ L) (hL : L ≤ 100000) (kk : Mem → Rho → Option (Mem × Rho)) : ∃ ps2 ys2 K q, GS N x o ps2 ys2 K q ∧ f_L_c39 N xs L x o (iN i) M r kk = kk K q := by
  obtain ⟨v, K, q, h1, h2, G2⟩ := op_seed (a := xs (i + 1)) G
  refine ⟨ps, ys, K, q, G2, ?_⟩
  unfold f_L_c39
  rw [sld_1 hi hL, ob, G.A.c, ob, h1, ob, ob, h2, ob, if_pos rfl]
theorem case_40 (G : GS N x o ps ys M r) (hN : 20000 ≤ N) (hi : i + 6 ≤ L) (hL : L ≤ 100000) (kk : Mem → Rho → Option (Mem × Rho)) : ∃ ps2 ys2 K q, GS N x o ps2 ys2 K q ∧ f_L_c40 N xs L x o (iN i) M r kk = kk K q := by
  obtain ⟨ps2, ys2, v, K, q, h1, h2, G2⟩ := op_undo G (by omega)
  refine ⟨ps2, ys2, K, q, G2, ?_⟩
  unfold f_L_c40
  rw [G.A.c, ob, h1, ob, h2, ob, if_pos rfl]
theorem case_41 (G : GS N x o ps ys M r) (hN : 20000 ≤ N) (hi : i + 6 ≤ L) (hL : L ≤ 100000) (kk : Mem → Rho → Option (Mem × Rho)) : ∃ ps2 ys2 K q, GS N x o ps2 ys2 K q ∧ f_L_c41 N xs L x o (iN i) M r kk = kk K q := by
  obtain ⟨K, q, h1, h2, G2⟩ := op_image G (by omega)
  refine ⟨ps, ys, K, q, G2, ?_⟩
  unfold f_L_c41
  rw [G.A.c, ob, h1, ob, h2, ob]
theorem case_42 (G : GS N x o ps ys M r) (hN : 20000 ≤ N) (hi : i + 6 ≤ L) (hL : L ≤ 100000) (kk : Mem → Rho → Option (Mem × Rho)) : ∃ ps2 ys2 K q, GS N x o ps2 ys2 K q ∧ f_L_c42 N xs L x o (iN i) M r kk = kk K q := by
  obtain ⟨ps2, ys2, v, K, q, h1, h2, G2⟩ := op_back G (by omega)
  refine ⟨ps2, ys2, K, q, G2, ?_⟩
  unfold f_L_c42
  rw [G.A.c, ob, h1, ob, h2, ob, if_pos rfl]
theorem case_43 (G : GS N x o ps ys M r) (hN : 20000 ≤ N) (hi : i + 6 ≤ L) (hL : L ≤ 100000) (kk : Mem → Rho → Option (Mem × Rho)) : ∃ ps2 ys2 K q, GS N x o ps2 ys2 K q ∧ f_L_c43 N xs L x o (iN i) M r kk = kk K q := by
  obtain ⟨v, q, h1, h2, G2⟩ := op_count (a := xs (i + 1)) G (by omega)
  refine ⟨ps, ys, M, q, G2, ?_⟩
  unfold f_L_c43
  rw [sld_1 hi hL, ob, G.A.c, ob, h1, ob, ob, h2, ob, if_pos rfl]
end Ca
