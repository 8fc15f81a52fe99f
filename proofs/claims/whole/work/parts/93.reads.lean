theorem i1n : ¬ (1 : Int32) = 0 := by decide
theorem i00 : (0 : Int32) ≤ 0 := by decide
theorem i10 : ¬ (1 : Int32) ≤ 0 := by decide
theorem i20 : ¬ (2 : Int32) ≤ 0 := by decide
section Rd
variable {N x o : Nat} {ps ys : Nat → Nat} {M : Mem} {r : Rho} {a b c : Int32}
theorem GS.th (G : GS N x o ps ys M r) (c : Int32) : GS N x o ps ys M (r_set r 0 c) := G.s0 (S0.thr r c)
theorem op_cost (G : GS N x o ps ys M r) : Both N x o (f_L_cost x a b o M) (f_R_cost a b r) := by
  by_cases h1 : okR a 32
  · by_cases h2 : okR b 32
    · refine both_ok (v := costM (r.2 1) a b) (G.th 0) (th0 r 0) ?_ ?_
      · unfold f_L_cost f_CT_cost
        rw [G.A.c, ob, needG_y h1, ob, sx_l, needG_y h2, ob, sx_l, G.A.gN, ob, G.S.g_lands, ob, G.S.g_manners, ob, G.S.c2, ob, G.R.cost G.S, ob, ob, sx_l]
        rfl
      · unfold f_R_cost f_R_cost_20
        rw [isCode_y h1, ob, if_neg i1n, isCode_y h2, ob, if_neg i1n, th0, if_pos i00, f_R_costOf_eq, ob]
        rfl
    · refine both_ex (c := 1) (v := 0) (G.new.th 1) i1n (th0 r 1) ?_ ?_
      · unfold f_L_cost f_CT_cost
        rw [G.A.c, ob, needG_y h1, ob, sx_l, needG_n h2, ob, sx_r, ob, sx_r, if_pos rfl]
      · unfold f_R_cost f_R_cost_15 f_R_cost_20
        rw [isCode_y h1, ob, if_neg i1n, isCode_n h2, ob, if_pos rfl, th0, if_neg i10]
  · refine both_ex (c := 1) (v := 0) (G.new.th 1) i1n (th0 r 1) ?_ ?_
    · unfold f_L_cost f_CT_cost
      rw [G.A.c, ob, needG_n h1, ob, sx_r, ob, sx_r, if_pos rfl]
    · unfold f_R_cost f_R_cost_15 f_R_cost_20
      rw [isCode_n h1, ob, if_pos rfl, th0, if_neg i10]
theorem okR_ne (h : okR a 32) : a ≠ -1 := by
  obtain ⟨k, h1, rfl⟩ := h
  exact iN_m1 (by omega)
theorem op_habit (G : GS N x o ps ys M r) (hN : 40 < N) : Both N x o (f_L_habit N x a b o M) (f_R_habit N a b r) := by
  by_cases h1 : okR a (cn (r.2 1) 3)
  · by_cases h2 : okR b 32
    · refine both_ok (v := wtM (r.2 1) a b) (G.th 0) (th0 r 0) ?_ ?_
      · unfold f_L_habit f_CT_habit
        rw [G.A.c, ob, ob, needL_y G h1, ob, sx_l, needG_y h2, ob, sx_l, G.A.gN, ob, G.S.g_lands, ob, G.S.c1, ob, f_Lands_weightOf_eq G.S G.I G.R (by omega) _ _ (okR_ne h2), ob, ob, sx_l]
        rfl
      · unfold f_R_habit f_R_habit_21
        rw [isLand_y G.I h1, ob, if_neg i1n, isCode_y h2, ob, if_neg i1n, th0, if_pos i00, f_R_weight_eq (thI G.I 0) (by omega), ob]
        rfl
    · refine both_ex (c := 1) (v := 0) (G.new.th 1) i1n (th0 r 1) ?_ ?_
      · unfold f_L_habit f_CT_habit
        rw [G.A.c, ob, ob, needL_y G h1, ob, sx_l, needG_n h2, ob, sx_r, ob, sx_r, if_pos rfl]
      · unfold f_R_habit f_R_habit_16 f_R_habit_21
        rw [isLand_y G.I h1, ob, if_neg i1n, isCode_n h2, ob, if_pos rfl, th0, if_neg i10]
  · refine both_ex (c := 1) (v := 0) (G.new.th 1) i1n (th0 r 1) ?_ ?_
    · unfold f_L_habit f_CT_habit
      rw [G.A.c, ob, ob, needL_n G h1, ob, sx_r, ob, sx_r, if_pos rfl]
    · unfold f_R_habit f_R_habit_16 f_R_habit_21
      rw [isLand_n G.I h1, ob, if_pos rfl, th0, if_neg i10]
theorem op_expected (G : GS N x o ps ys M r) (hN : 40 < N) : Both N x o (f_L_expected N x a b o M) (f_R_expected N a b r) := by
  by_cases h1 : okR a (cn (r.2 1) 3)
  · by_cases h2 : okR b 32
    · refine both_ok (v := exM (r.2 1) a b) (G.th 0) (th0 r 0) ?_ ?_
      · unfold f_L_expected f_CT_expected
        rw [G.A.c, ob, ob, needL_y G h1, ob, sx_l, needG_y h2, ob, sx_l, G.A.gN, ob, G.S.g_lands, ob, G.S.c1, ob, f_Lands_expectedOf_eq G.S G.I G.R (by omega), ob, ob, sx_l]
        rfl
      · unfold f_R_expected f_R_expected_21
        rw [isLand_y G.I h1, ob, if_neg i1n, isCode_y h2, ob, if_neg i1n, th0, if_pos i00, f_R_expects_eq (thI G.I 0) (by omega), ob]
        rfl
    · refine both_ex (c := 1) (v := 0) (G.new.th 1) i1n (th0 r 1) ?_ ?_
      · unfold f_L_expected f_CT_expected
        rw [G.A.c, ob, ob, needL_y G h1, ob, sx_l, needG_n h2, ob, sx_r, ob, sx_r, if_pos rfl]
      · unfold f_R_expected f_R_expected_16 f_R_expected_21
        rw [isLand_y G.I h1, ob, if_neg i1n, isCode_n h2, ob, if_pos rfl, th0, if_neg i10]
  · refine both_ex (c := 1) (v := 0) (G.new.th 1) i1n (th0 r 1) ?_ ?_
    · unfold f_L_expected f_CT_expected
      rw [G.A.c, ob, ob, needL_n G h1, ob, sx_r, ob, sx_r, if_pos rfl]
    · unfold f_R_expected f_R_expected_16 f_R_expected_21
      rw [isLand_n G.I h1, ob, if_pos rfl, th0, if_neg i10]
theorem op_best (G : GS N x o ps ys M r) (hN : 40 < N) : Both N x o (f_L_best N x a o M) (f_R_best N a r) := by
  by_cases h1 : okR a (cn (r.2 1) 3)
  · refine both_ok (v := leM (exM (r.2 1) a)) (G.th 0) (th0 r 0) ?_ ?_
    · unfold f_L_best f_CT_best
      rw [G.A.c, ob, ob, needL_y G h1, ob, sx_l, G.A.gN, ob, G.S.g_lands, ob, G.S.c1, ob, f_Lands_bestIn_eq G.S G.I G.R (by omega), ob, ob, sx_l]
      rfl
    · unfold f_R_best f_R_best_14
      rw [isLand_y G.I h1, ob, if_neg i1n, th0, if_pos i00, f_R_bestOf_eq (thI G.I 0) (by omega), ob]
      rfl
  · refine both_ex (c := 1) (v := 0) (G.new.th 1) i1n (th0 r 1) ?_ ?_
    · unfold f_L_best f_CT_best
      rw [G.A.c, ob, ob, needL_n G h1, ob, sx_r, ob, sx_r, if_pos rfl]
    · unfold f_R_best f_R_best_14
      rw [isLand_n G.I h1, ob, if_pos rfl, th0, if_neg i10]
/-- a sum of weights is never below 0 -/
theorem wtM_nn {m : Nat → Int32} (I : Inv m) (land g : Int32) : ∃ n, n ≤ 9 * 24 ∧ wtM m land g = iN n := by
  have hb := I.b4
  have key : ∀ (j k n : Nat), k + j = cn m 4 → n ≤ 9 * k → ∃ n2, n2 ≤ 9 * (k + j) ∧ lp (wtS m land g) j k (iN n) = iN n2 := by
    intro j
    induction j with
    | zero => intro k n _ hn; exact ⟨n, hn, rfl⟩
    | succ j ih =>
      intro k n hk hn
      obtain ⟨-, -, ⟨w, hw, e⟩, -⟩ := I.hb (k := k) (by omega)
      show ∃ n2, n2 ≤ 9 * (k + (j + 1)) ∧ lp (wtS m land g) j (k + 1) (wtS m land g k (iN n)) = iN n2
      unfold wtS
      by_cases h : m (20 + 3 * k) = land ∧ (g = -1 ∨ m (21 + 3 * k) = g)
      · obtain ⟨n2, h1, h2⟩ := ih (k + 1) (n + w) (by omega) (by omega)
        refine ⟨n2, by omega, ?_⟩
        rw [if_pos h, e, iN_add]
        exact h2
      · obtain ⟨n2, h1, h2⟩ := ih (k + 1) n (by omega) (by omega)
        refine ⟨n2, by omega, ?_⟩
        rw [if_neg h]
        exact h2
  obtain ⟨n, h1, h2⟩ := key (cn m 4) 0 0 (by omega) (by omega)
  exact ⟨n, by omega, h2⟩
theorem op_odds (G : GS N x o ps ys M r) (hN : 40 < N) : Both N x o (f_L_odds N x a b o M) (f_R_odds N a b r) := by
  by_cases h1 : okR a (cn (r.2 1) 3)
  · by_cases h2 : okR b 32
    · obtain ⟨n, hn, en⟩ := wtM_nn G.I a (-1)
      have wl := f_Lands_allWeightIn_eq (N := N) G.S G.I G.R (by omega) a
      have wg := f_Lands_weightOf_eq (N := N) G.S G.I G.R (by omega) a b (okR_ne h2)
      have ml := f_R_weight_eq (r := r_set r 0 0) (N := N) (thI G.I 0) (by omega) a (-1)
      have mg := f_R_weight_eq (r := r_set r 0 0) (N := N) (thI G.I 0) (by omega) a b
      have ml2 : f_R_weight N a (-1) (r_set r 0 0) = some (iN n) := by rw [ml]; exact congrArg some en
      by_cases hz : n = 0
      · subst hz
        refine both_ok (v := 0) (G.th 0) (th0 r 0) ?_ ?_
        · unfold f_L_odds f_CT_odds
          rw [G.A.c, ob, ob, needL_y G h1, ob, sx_l, needG_y h2, ob, sx_l, G.A.gN, ob, G.S.g_lands, ob, G.S.c1, ob, wl, ob, en, if_neg (by decide), ob, sx_l]
          rfl
        · unfold f_R_odds f_R_odds_21
          rw [isLand_y G.I h1, ob, if_neg i1n, isCode_y h2, ob, if_neg i1n, th0, if_neg (by decide), ml2, ob, if_pos (by decide)]
      · have hnz : iN n ≠ 0 := iN_ne (b := 0) hz (by omega) (by decide)
        have hpos : (0 : Int32) < iN n := iN_ylt (k := 0) (by omega) (by omega)
        refine both_ok (v := wtM (r.2 1) a b * 10000 / iN n) (G.th 0) (th0 r 0) ?_ ?_
        · unfold f_L_odds f_CT_odds
          rw [G.A.c, ob, ob, needL_y G h1, ob, sx_l, needG_y h2, ob, sx_l, G.A.gN, ob, G.S.g_lands, ob, G.S.c1, ob, wl, ob, en, if_pos hpos, ob, G.S.g_lands, ob, G.S.c1, ob, wg, ob, show nz (iN n) = some () from if_neg hnz, ob, ob, sx_l]
          rfl
        · unfold f_R_odds f_R_odds_21
          rw [isLand_y G.I h1, ob, if_neg i1n, isCode_y h2, ob, if_neg i1n, th0, if_neg (by decide), ml2, ob, if_neg hnz, mg, ob, ob, show nz (iN n) = some () from if_neg hnz, ob, Int32.mul_comm]
          rfl
    · refine both_ex (c := 1) (v := 0) (G.new.th 1) i1n (th0 r 1) ?_ ?_
      · unfold f_L_odds f_CT_odds
        rw [G.A.c, ob, ob, needL_y G h1, ob, sx_l, needG_n h2, ob, sx_r, ob, sx_r, if_pos rfl]
      · unfold f_R_odds f_R_odds_16 f_R_odds_21
        rw [isLand_y G.I h1, ob, if_neg i1n, isCode_n h2, ob, if_pos rfl, th0, if_pos (by decide)]
  · refine both_ex (c := 1) (v := 0) (G.new.th 1) i1n (th0 r 1) ?_ ?_
    · unfold f_L_odds f_CT_odds
      rw [G.A.c, ob, ob, needL_n G h1, ob, sx_r, ob, sx_r, if_pos rfl]
    · unfold f_R_odds f_R_odds_16 f_R_odds_21
      rw [isLand_n G.I h1, ob, if_pos rfl, th0, if_pos (by decide)]
theorem of_k {p k : Nat} (hp : p < 10) (hk : k < 8) : f_R_of (iN p) (iN k) r = some (pC (r.2 1) p k) := by
  match k, hk with
  | 0, _ => exact of0 hp
  | 1, _ => exact of1 hp
  | 2, _ => exact of2 hp
  | 3, _ => exact of3 hp
  | 4, _ => exact of4 hp
  | 5, _ => exact of5 hp
  | 6, _ => exact of6 hp
  | 7, _ => exact of7 hp
theorem needW6_y (h : okR a 7) : f_CT_needWhat a 6 M = some (.inl (), M) := needW_y 6 (by decide) h
theorem needW6_n (h : ¬ okR a 7) : f_CT_needWhat a 6 M = some (.inr "java/util/NoSuchElementException", m_new M (0, 0)) := needW_n 6 (by decide) h
theorem e6 : (6 : Int32) = iN 7 - 1 := by decide
theorem op_person (G : GS N x o ps ys M r) (hN : 40 < N) : Both N x o (f_L_person N x a b o M) (f_R_person N a b r) := by
  have h5 := G.I.b5
  by_cases h1 : okR a (cn (r.2 1) 5)
  · by_cases h2 : okR b 7
    · have h1' := h1
      have h2' := h2
      obtain ⟨p, hp, rfl⟩ := h1
      obtain ⟨k, hk, rfl⟩ := h2
      have hp2 : p < 10 := by omega
      have cl : ∀ v, f_CT_person N x (iN p) (iN k) M = some (.inl v, M) → f_L_person N x (iN p) (iN k) o M = lsO o v M := fun v h => by
        unfold f_L_person
        rw [G.A.c, ob, h, ob, sx_l]
        rfl
      have ct : ∀ y : Option ((Int32 ⊕ String) × Mem), (if iN k = 0 then ((gI M 5 (x + 2 + 11 + 3 * p) 0).bind fun v8 => some ((.inl v8 : Int32 ⊕ String), M)) else (if iN k = 1 then ((gI M 5 (x + 2 + 11 + 3 * p) 1).bind fun v9 => some (.inl v9, M)) else (if iN k = 2 then ((gI M 5 (x + 2 + 11 + 3 * p) 2).bind fun v10 => some (.inl v10, M)) else (if iN k = 3 then ((gI M 5 (x + 2 + 11 + 3 * p) 3).bind fun v11 => some (.inl v11, M)) else (if iN k = 4 then ((gI M 5 (x + 2 + 11 + 3 * p) 4).bind fun v12 => if v12 = 0 then (some (.inl 0, M)) else (some (.inl 1, M))) else (if iN k = 5 then ((gI M 5 (x + 2 + 11 + 3 * p) 5).bind fun v13 => some (.inl v13, M)) else ((ck M 5 (x + 2 + 11 + 3 * p)).bind fun _ => (f_Person_meetings N (x + 2 + 11 + 3 * p) M).bind fun z14 => some (.inl z14, M)))))))) = y → f_CT_person N x (iN p) (iN k) M = y := fun y h => by
        unfold f_CT_person
        rw [G.A.c, ob, needP_y G h1', ob, sx_l, needW6_y h2', ob, sx_l, G.A.gN, ob, G.S.g_people, ob, G.S.g_person hp2, ob]
        exact h
      have md : ∀ y, (if (5 : Int32) ≤ iN k then (if iN k = 5 then ((f_R_tiedTo N (iN p) (r_set r 0 0)).bind fun z4 => some (z4, r_set r 0 0)) else ((f_R_of (iN p) 5 (r_set r 0 0)).bind fun z3 => some (z3, r_set r 0 0))) else ((f_R_of (iN p) (iN k) (r_set r 0 0)).bind fun z5 => some (z5, r_set r 0 0))) = y → f_R_person N (iN p) (iN k) r = y := fun y h => by
        unfold f_R_person f_R_person_28
        rw [isPerson_y G.I h1', ob, if_neg i1n, e6, isIn_y h2' (by decide), ob, if_neg i1n, th0, if_pos i00]
        exact h
      have c4 := (G.I.p hp).2.1
      have hk7 : k = 0 ∨ k = 1 ∨ k = 2 ∨ k = 3 ∨ k = 4 ∨ k = 5 ∨ k = 6 := by omega
      rcases hk7 with rfl | rfl | rfl | rfl | rfl | rfl | rfl
      · refine both_ok (v := pC (r.2 1) p 0) (G.th 0) (th0 r 0) (cl _ (ct _ ?_)) (md _ ?_)
        · rw [if_pos (by decide), G.S.iP hp2, ob, G.R.q0 G.I hp]
        · rw [if_neg (by decide), of_k hp2 (by decide), ob]
          rfl
      · refine both_ok (v := pC (r.2 1) p 1) (G.th 0) (th0 r 0) (cl _ (ct _ ?_)) (md _ ?_)
        · rw [if_neg (by decide), if_pos (by decide), G.S.iP hp2, ob, G.R.q1 G.I hp]
        · rw [if_neg (by decide), of_k hp2 (by decide), ob]
          rfl
      · refine both_ok (v := pC (r.2 1) p 2) (G.th 0) (th0 r 0) (cl _ (ct _ ?_)) (md _ ?_)
        · rw [if_neg (by decide), if_neg (by decide), if_pos (by decide), G.S.iP hp2, ob, G.R.q2 G.I hp]
        · rw [if_neg (by decide), of_k hp2 (by decide), ob]
          rfl
      · refine both_ok (v := pC (r.2 1) p 3) (G.th 0) (th0 r 0) (cl _ (ct _ ?_)) (md _ ?_)
        · rw [if_neg (by decide), if_neg (by decide), if_neg (by decide), if_pos (by decide), G.S.iP hp2, ob, G.R.q3 G.I hp]
        · rw [if_neg (by decide), of_k hp2 (by decide), ob]
          rfl
      · refine both_ok (v := pC (r.2 1) p 4) (G.th 0) (th0 r 0) (cl _ (ct _ ?_)) (md _ ?_)
        · rw [if_neg (by decide), if_neg (by decide), if_neg (by decide), if_neg (by decide), if_pos (by decide), G.S.iP hp2, ob, G.R.q4 G.I hp]
          rcases c4 with c4 | c4
          · rw [c4, if_pos rfl]
          · rw [c4, if_neg i1n]
        · rw [if_neg (by decide), of_k hp2 (by decide), ob]
          rfl
      · refine both_ok (v := tdS (r.2 1) p) (G.th 0) (th0 r 0) (cl _ (ct _ ?_)) (md _ ?_)
        · rw [if_neg (by decide), if_neg (by decide), if_neg (by decide), if_neg (by decide), if_neg (by decide), if_pos (by decide), G.S.iP hp2, ob, G.R.q5 G.I hp]
        · rw [if_pos (by decide), if_pos (by decide), f_R_tiedTo_eq (thI G.I 0) hN, ob]
          rfl
      · refine both_ok (v := pC (r.2 1) p 5) (G.th 0) (th0 r 0) (cl _ (ct _ ?_)) (md _ ?_)
        · rw [if_neg (by decide), if_neg (by decide), if_neg (by decide), if_neg (by decide), if_neg (by decide), if_neg (by decide), G.S.cP hp2, ob, f_Person_meetings_eq G.S G.I G.R hN hp, ob, (G.I.p hp).2.2.1]
        · rw [if_pos (by decide), if_neg (by decide), of5 hp2, ob]
          rfl
    · refine both_ex (c := 2) (v := 0) (G.new.th 2) (by decide) (th0 r 2) ?_ ?_
      · unfold f_L_person f_CT_person
        rw [G.A.c, ob, ob, needP_y G h1, ob, sx_l, needW6_n h2, ob, sx_r, ob, sx_r, if_neg (by decide), if_pos rfl]
      · unfold f_R_person f_R_person_28
        rw [isPerson_y G.I h1, ob, if_neg i1n, e6, isIn_n h2 (by decide), ob, if_pos rfl, th0, if_neg i20]
  · refine both_ex (c := 1) (v := 0) (G.new.th 1) i1n (th0 r 1) ?_ ?_
    · unfold f_L_person f_CT_person
      rw [G.A.c, ob, ob, needP_n G h1, ob, sx_r, ob, sx_r, if_pos rfl]
    · unfold f_R_person f_R_person_28
      rw [isPerson_n G.I h1, ob, if_pos rfl, th0, if_neg i10]
end Rd
