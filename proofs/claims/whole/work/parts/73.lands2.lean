/-! the whole weight in a land -/
theorem wtS_all (m : Nat → Int32) (land : Int32) (k : Nat) (z : Int32) : wtS m land (-1) k z = if m (20 + 3 * k) = land then z + m (22 + 3 * k) else z := by
  unfold wtS
  by_cases h : m (20 + 3 * k) = land
  · rw [if_pos h, if_pos ⟨h, Or.inl rfl⟩]
  · rw [if_neg h, if_neg (fun q => h q.1)]
theorem f_Lands_allWeightIn_eq {M : Mem} {t n N : Nat} {m : Nat → Int32} (S : Shape M t) (R : LRel M t m n) (hn : m 4 = iN n) (hb : n ≤ 24) (hN : 24 < N) (land : Int32) : f_Lands_allWeightIn N (t + 1) land M = some (wtM m n land (-1)) := by
  unfold f_Lands_allWeightIn wtM
  refine lp_run (F := fun fuel k z => f_Lands_allWeightIn_4 N (t + 1) land M fuel z (iN k)) (f := wtS m land (-1)) (fin := fun z => some z) (n := n) (fun fuel z => ?_) (fun fuel k z hk => ?_) n 0 0 N (by omega) (by omega)
  · show f_Lands_allWeightIn_4 N (t + 1) land M (fuel + 1) z (iN n) = some z
    rw [f_Lands_allWeightIn_4, gI_k (ci := 0) S.k1, R.2.1, hn]
    show (if iN n ≤ iN n then some z else _) = some z
    rw [if_pos (Int32.le_refl _)]
  · show f_Lands_allWeightIn_4 N (t + 1) land M (fuel + 1) z (iN k) = f_Lands_allWeightIn_4 N (t + 1) land M fuel (wtS m land (-1) k z) (iN (k + 1))
    obtain ⟨r1, r2, r3⟩ := R.2.2.2 k hk
    rw [f_Lands_allWeightIn_4, gI_k (ci := 0) S.k1, R.2.1, hn, S.g_hland, S.g_hweight, wtS_all]
    show (if iN n ≤ iN k then some z else (if iN 24 ≤ iN k then some z else (ald M (t + 3) (iN k)).bind _)) = _
    rw [if_neg (by rw [iN_le (by omega) (by omega)]; omega), if_neg (by rw [iN_le (by omega) (by omega)]; omega), ald_iN S.k3 (by omega) (by decide), r1]
    show (if m (20 + 3 * k) = land then (ald M (t + 5) (iN k)).bind _ else _) = _
    rw [ald_iN S.k5 (by omega) (by decide), r3]
    by_cases h1 : m (20 + 3 * k) = land
    · rw [if_pos h1, if_pos h1]
      rfl
    · rw [if_neg h1, if_neg h1]
      rfl
/-! what a greeting costs in a land -/
def exS (m : Nat → Int32) (land g : Int32) (k : Nat) (z : Int32) : Int32 := if m (20 + 3 * k) = land then z + m (22 + 3 * k) * costM m g (m (21 + 3 * k)) else z
def exM (m : Nat → Int32) (n : Nat) (land g : Int32) : Int32 := lp (exS m land g) n 0 0
theorem f_R_expects_eq {r : Rho} {n N : Nat} (hn : r.2 1 4 = iN n) (hb : n ≤ 24) (hN : 24 < N) (land g : Int32) : f_R_expects N land g r = some (exM (r.2 1) n land g) := by
  unfold f_R_expects exM
  refine lp_run (F := fun fuel k z => f_R_expects_5 N land g r fuel z (iN k)) (f := exS (r.2 1) land g) (fin := fun z => some z) (n := n) (fun fuel z => ?_) (fun fuel k z hk => ?_) n 0 0 N (by omega) (by omega)
  · show f_R_expects_5 N land g r (fuel + 1) z (iN n) = some z
    rw [f_R_expects_5, rld1L 4 (by decide), hn]
    show (if iN n ≤ iN n then some z else _) = some z
    rw [if_pos (Int32.le_refl _)]
  · show f_R_expects_5 N land g r (fuel + 1) z (iN k) = f_R_expects_5 N land g r fuel (exS (r.2 1) land g k z) (iN (k + 1))
    rw [f_R_expects_5, rld1L 4 (by decide), hn]
    show (if iN n ≤ iN k then some z else _) = _
    rw [if_neg (by rw [iN_le (by omega) (by omega)]; omega), ix3, rld1 (by omega)]
    show (if r.2 1 (20 + 3 * k) = land then _ else _) = _
    unfold f_R_expects_71 exS
    rw [ixa, ixa, ixa, rld1 (by omega), rld1 (by omega), show 20 + 3 * k + 1 = 21 + 3 * k by omega, show 20 + 3 * k + 2 = 22 + 3 * k by omega]
    by_cases h1 : r.2 1 (20 + 3 * k) = land
    · rw [if_pos h1, if_pos h1]
      show (f_R_costOf g (r.2 1 (21 + 3 * k)) r).bind _ = _
      rw [f_R_costOf_eq]
      rfl
    · rw [if_neg h1, if_neg h1]
      show f_R_expects_5 N land g r fuel (z + 0) (iN (k + 1)) = _
      rw [Int32.add_zero]
theorem LRel.cost {M : Mem} {t n : Nat} {m : Nat → Int32} (S : Shape M t) (R : LRel M t m n) (x y : Int32) : f_Manners_costOf (t + 2) x y M = some (costM m x y) := by
  rw [f_Manners_costOf_eq S.k2, R.2.2.1.1, R.2.2.1.2.1, R.2.2.1.2.2]
  rfl
theorem f_Lands_expectedOf_eq {M : Mem} {t n N : Nat} {m : Nat → Int32} (S : Shape M t) (R : LRel M t m n) (hn : m 4 = iN n) (hb : n ≤ 24) (hN : 24 < N) (land g : Int32) : f_Lands_expectedOf N (t + 1) land g M = some (exM m n land g) := by
  unfold f_Lands_expectedOf exM
  refine lp_run (F := fun fuel k z => f_Lands_expectedOf_5 N (t + 1) land g M fuel z (iN k)) (f := exS m land g) (fin := fun z => some z) (n := n) (fun fuel z => ?_) (fun fuel k z hk => ?_) n 0 0 N (by omega) (by omega)
  · show f_Lands_expectedOf_5 N (t + 1) land g M (fuel + 1) z (iN n) = some z
    rw [f_Lands_expectedOf_5, gI_k (ci := 0) S.k1, R.2.1, hn]
    show (if iN n ≤ iN n then some z else _) = some z
    rw [if_pos (Int32.le_refl _)]
  · show f_Lands_expectedOf_5 N (t + 1) land g M (fuel + 1) z (iN k) = f_Lands_expectedOf_5 N (t + 1) land g M fuel (exS m land g k z) (iN (k + 1))
    obtain ⟨r1, r2, r3⟩ := R.2.2.2 k hk
    rw [f_Lands_expectedOf_5, gI_k (ci := 0) S.k1, R.2.1, hn, S.g_hland, S.g_hweight, S.g_manners, S.g_hgreet]
    show (if iN n ≤ iN k then some z else (if iN 24 ≤ iN k then some z else (ald M (t + 3) (iN k)).bind _)) = _
    rw [if_neg (by rw [iN_le (by omega) (by omega)]; omega), if_neg (by rw [iN_le (by omega) (by omega)]; omega), ald_iN S.k3 (by omega) (by decide), r1]
    show (if m (20 + 3 * k) = land then (ald M (t + 5) (iN k)).bind _ else _) = _
    unfold exS
    by_cases h1 : m (20 + 3 * k) = land
    · rw [if_pos h1, if_pos h1, ald_iN S.k5 (by omega) (by decide), r3]
      show (ald M (t + 4) (iN k)).bind _ = _
      rw [ald_iN S.k4 (by omega) (by decide), r2]
      show (ck M 4 (t + 2)).bind _ = _
      rw [ck_k (ci := 4) S.k2]
      show (f_Manners_costOf (t + 2) g (m (21 + 3 * k)) M).bind _ = _
      rw [R.cost S]
      rfl
    · rw [if_neg h1, if_neg h1]
      rfl
