/-! greetings and what it costs that two are unlike -/
def cntI (g : Int32) : Int32 := ((g >>> (1 &&& 31)) &&& 3) + 1
def absI (d : Int32) : Int32 := if 0 ≤ d then d else -d
def costP (s ai no x y : Int32) : Int32 :=
  if x >>> (3 &&& 31) = y >>> (3 &&& 31) then (if x >>> (3 &&& 31) = 2 then ai * absI (cntI x - cntI y) + (if x &&& 1 = y &&& 1 then 0 else no) else 0) else s
def costM (m : Nat → Int32) (x y : Int32) : Int32 := costP (m 13) (m 14) (m 15) x y
theorem f_R_costOf_eq (x y : Int32) (r : Rho) : f_R_costOf x y r = some (costM (r.2 1) x y) := by
  unfold f_R_costOf costM costP
  by_cases h1 : x >>> (3 &&& 31) = y >>> (3 &&& 31)
  · rw [if_pos h1, if_pos h1]
    by_cases h2 : x >>> (3 &&& 31) = 2
    · rw [if_pos h2, if_pos h2, rlm14]
      show (if 0 ≤ cntI x - cntI y then f_R_costOf_53 x y r (r.2 1 14) (cntI x - cntI y) else f_R_costOf_53 x y r (r.2 1 14) (-(cntI x - cntI y))) = _
      have h5 : ∀ a b : Int32, f_R_costOf_53 x y r a b = some (a * b + (if x &&& 1 = y &&& 1 then 0 else r.2 1 15)) := fun a b => by
        unfold f_R_costOf_53
        by_cases h3 : x &&& 1 = y &&& 1
        · rw [if_pos h3, if_pos h3]
          rfl
        · rw [if_neg h3, if_neg h3, rlm15]
          rfl
      unfold absI
      by_cases h4 : 0 ≤ cntI x - cntI y
      · rw [if_pos h4, if_pos h4, h5]
      · rw [if_neg h4, if_neg h4, h5]
    · rw [if_neg h2, if_neg h2]
  · rw [if_neg h1, if_neg h1, rlm13]
    rfl
theorem f_Manners_costOf_eq {M : Mem} {a : Nat} (hk : (m_kd M a).1 = 14) (x y : Int32) : f_Manners_costOf a x y M = some (costP (m_iv M a 0) (m_iv M a 1) (m_iv M a 2) x y) := by
  unfold f_Manners_costOf costP f_Manners_kindOf f_Manners_countOf f_Manners_sideOf
  show (if x >>> (3 &&& 31) = y >>> (3 &&& 31) then _ else _) = _
  by_cases h1 : x >>> (3 &&& 31) = y >>> (3 &&& 31)
  · rw [if_pos h1, if_pos h1]
    show (if x >>> (3 &&& 31) = 2 then _ else _) = _
    by_cases h2 : x >>> (3 &&& 31) = 2
    · rw [if_pos h2, if_pos h2]
      have h6 : f_Math_abs (cntI x - cntI y) = some (absI (cntI x - cntI y)) := by
        unfold f_Math_abs absI
        by_cases h4 : 0 ≤ cntI x - cntI y
        · rw [if_pos h4, if_pos h4]
        · rw [if_neg h4, if_neg h4]
      show (f_Math_abs (cntI x - cntI y)).bind _ = _
      rw [h6, gI_k (ci := 4) hk, gI_k (ci := 4) hk]
      show (if x &&& 1 = y &&& 1 then _ else _) = _
      by_cases h3 : x &&& 1 = y &&& 1
      · rw [if_pos h3, if_pos h3]
        rfl
      · rw [if_neg h3, if_neg h3]
        rfl
    · rw [if_neg h2, if_neg h2]
  · rw [if_neg h1, if_neg h1, gI_k (ci := 4) hk]
    rfl
theorem ix20 (k : Nat) : (20 : Int32) + 3 * iN k = iN (20 + 3 * k) := by simp only [q0, q1, q2, q3, q4, q5, q6, q7, q8, q10, q20, q92, q172, q272, q372, q420, q900, iN_mul, iN_add]
theorem ld20 {r : Rho} {k : Nat} (hk : k < 24) : rld r 1 ((20 : Int32) + 3 * iN k) = some (r.2 1 (20 + 3 * k)) := by rw [ix20, rld1 (by omega)]
theorem ld21 {r : Rho} {k : Nat} (hk : k < 24) : rld r 1 (((20 : Int32) + 3 * iN k) + 1) = some (r.2 1 (21 + 3 * k)) := by
  rw [show ((20 : Int32) + 3 * iN k) + 1 = iN (21 + 3 * k) by rw [ix20, iN_s, show 20 + 3 * k + 1 = 21 + 3 * k by omega], rld1 (by omega)]
theorem ld22 {r : Rho} {k : Nat} (hk : k < 24) : rld r 1 (((20 : Int32) + 3 * iN k) + 2) = some (r.2 1 (22 + 3 * k)) := by
  rw [show ((20 : Int32) + 3 * iN k) + 2 = iN (22 + 3 * k) by rw [ix20, q2, iN_add, show 20 + 3 * k + 2 = 22 + 3 * k by omega], rld1 (by omega)]
theorem l24 {k : Nat} (hk : k < 24) : ¬ (24 : Int32) ≤ iN k := iN_nle hk (by decide)
/-! weights -/
def wtS (m : Nat → Int32) (land g : Int32) (k : Nat) (z : Int32) : Int32 := if m (20 + 3 * k) = land ∧ (g = -1 ∨ m (21 + 3 * k) = g) then z + m (22 + 3 * k) else z
def wtM (m : Nat → Int32) (land g : Int32) : Int32 := lp (wtS m land g) (cn m 4) 0 0
section La
variable {r : Rho} {M : Mem} {t N : Nat} {m : Nat → Int32}
theorem f_R_weight_eq (I : Inv (r.2 1)) (hN : 24 < N) (land g : Int32) : f_R_weight N land g r = some (wtM (r.2 1) land g) := by
  unfold f_R_weight wtM
  have hn := I.n4
  have hb := I.b4
  refine lp_run (F := fun fuel k z => f_R_weight_5 N land g r fuel z (iN k)) (f := wtS (r.2 1) land g) (fin := fun z => some z) (n := cn (r.2 1) 4) (fun fuel z => ?_) (fun fuel k z hk => ?_) _ 0 0 N (by omega) (by omega)
  · simp only [f_R_weight_5, rlm4, hn, ob, i_le_rfl, ↓reduceIte]
  · simp only [f_R_weight_5, rlm4, hn, ob, iN_nle hk (by omega), ↓reduceIte, ld20 (r := r) (show k < 24 by omega), ld21 (r := r) (show k < 24 by omega), ld22 (r := r) (show k < 24 by omega), f_R_weight_56, f_R_weight_73, f_R_weight_74, iN_s]
    unfold wtS
    by_cases h1 : r.2 1 (20 + 3 * k) = land
    · by_cases h2 : g = -1
      · rw [if_pos h1, if_pos h2, if_pos ⟨h1, Or.inl h2⟩]
      · by_cases h3 : r.2 1 (21 + 3 * k) = g
        · rw [if_pos h1, if_neg h2, if_pos h3, if_pos ⟨h1, Or.inr h3⟩]
        · rw [if_pos h1, if_neg h2, if_neg h3, if_neg (fun q => q.2.elim h2 h3), Int32.add_zero]
    · rw [if_neg h1, if_neg (fun q => h1 q.1), Int32.add_zero]
theorem f_Lands_weightOf_eq (S : Shape M t) (I : Inv m) (R : TRel M t m) (hN : 24 < N) (land g : Int32) (hg : g ≠ -1) : f_Lands_weightOf N (t + 1) land g M = some (wtM m land g) := by
  unfold f_Lands_weightOf wtM
  have hn := I.n4
  have hb := I.b4
  refine lp_run (F := fun fuel k z => f_Lands_weightOf_5 N (t + 1) land g M fuel z (iN k)) (f := wtS m land g) (fin := fun z => some z) (n := cn m 4) (fun fuel z => ?_) (fun fuel k z hk => ?_) _ 0 0 N (by omega) (by omega)
  · simp only [f_Lands_weightOf_5, S.i1, R.v4, hn, ob, i_le_rfl, ↓reduceIte]
  · have h := R.hab hk
    simp only [f_Lands_weightOf_5, S.i1, R.v4, hn, ob, iN_nle hk (by omega), l24 (show k < 24 by omega), ↓reduceIte, S.g_hland, S.g_hgreet, S.g_hweight, S.a3 (show k < 24 by omega), S.a4 (show k < 24 by omega), S.a5 (show k < 24 by omega), h.1, h.2.1, h.2.2, iN_s]
    unfold wtS
    by_cases h1 : m (20 + 3 * k) = land
    · by_cases h3 : m (21 + 3 * k) = g
      · rw [if_pos h1, if_pos h3, if_pos ⟨h1, Or.inr h3⟩]
      · rw [if_pos h1, if_neg h3, if_neg (fun q => q.2.elim hg h3)]
    · rw [if_neg h1, if_neg (fun q => h1 q.1)]
theorem f_Lands_allWeightIn_eq (S : Shape M t) (I : Inv m) (R : TRel M t m) (hN : 24 < N) (land : Int32) : f_Lands_allWeightIn N (t + 1) land M = some (wtM m land (-1)) := by
  unfold f_Lands_allWeightIn wtM
  have hn := I.n4
  have hb := I.b4
  refine lp_run (F := fun fuel k z => f_Lands_allWeightIn_4 N (t + 1) land M fuel z (iN k)) (f := wtS m land (-1)) (fin := fun z => some z) (n := cn m 4) (fun fuel z => ?_) (fun fuel k z hk => ?_) _ 0 0 N (by omega) (by omega)
  · simp only [f_Lands_allWeightIn_4, S.i1, R.v4, hn, ob, i_le_rfl, ↓reduceIte]
  · have h := R.hab hk
    simp only [f_Lands_allWeightIn_4, S.i1, R.v4, hn, ob, iN_nle hk (by omega), l24 (show k < 24 by omega), ↓reduceIte, S.g_hland, S.g_hgreet, S.g_hweight, S.a3 (show k < 24 by omega), S.a4 (show k < 24 by omega), S.a5 (show k < 24 by omega), h.1, h.2.1, h.2.2, iN_s]
    unfold wtS
    by_cases h1 : m (20 + 3 * k) = land
    · rw [if_pos h1, if_pos ⟨h1, Or.inl rfl⟩]
    · rw [if_neg h1, if_neg (fun q => h1 q.1)]
/-! what a greeting costs in a land -/
end La
def exS (m : Nat → Int32) (land g : Int32) (k : Nat) (z : Int32) : Int32 := if m (20 + 3 * k) = land then z + m (22 + 3 * k) * costM m g (m (21 + 3 * k)) else z
def exM (m : Nat → Int32) (land g : Int32) : Int32 := lp (exS m land g) (cn m 4) 0 0
def drS (m : Nat → Int32) (g : Int32) (k : Nat) (z : Int32) : Int32 := if z < costM m g (m (21 + 3 * k)) then costM m g (m (21 + 3 * k)) else z
def drM (m : Nat → Int32) (g : Int32) : Int32 := lp (drS m g) (cn m 4) 0 0
/-- the first of 32 with the least -/
def leS (f : Int32 → Int32) (k : Nat) (z : Int32) : Int32 := if f (iN k) < f z then iN k else z
def leM (f : Int32 → Int32) : Int32 := lp (leS f) 31 1 0
theorem max_eq (a b : Int32) : f_Math_max a b = some (if a < b then b else a) := by
  unfold f_Math_max
  by_cases h : a < b
  · rw [if_pos h, if_pos h]
  · rw [if_neg h, if_neg h]
theorem min_eq (a b : Int32) : f_Math_min a b = some (if b < a then b else a) := by
  unfold f_Math_min
  by_cases h : b < a
  · rw [if_pos h, if_pos h]
  · rw [if_neg h, if_neg h]
theorem greater_eq (a b : Int32) : f_R_greater a b = some (if a < b then b else a) := by
  unfold f_R_greater
  by_cases h : a < b
  · rw [if_pos h, if_pos (Int32.le_of_lt h)]
  · by_cases h2 : a ≤ b
    · rw [if_neg h, if_pos h2, Int32.le_antisymm h2 (Int32.not_lt.mp h)]
    · rw [if_neg h, if_neg h2]
theorem lesser_eq (a b : Int32) : f_R_lesser a b = some (if b < a then b else a) := by
  unfold f_R_lesser
  by_cases h : b < a
  · rw [if_pos h, if_pos (Int32.le_of_lt h)]
  · by_cases h2 : b ≤ a
    · rw [if_neg h, if_pos h2, Int32.le_antisymm h2 (Int32.not_lt.mp h)]
    · rw [if_neg h, if_neg h2]
section Lb
variable {r : Rho} {M : Mem} {t N : Nat} {m : Nat → Int32}
theorem f_R_expects_eq (I : Inv (r.2 1)) (hN : 24 < N) (land g : Int32) : f_R_expects N land g r = some (exM (r.2 1) land g) := by
  unfold f_R_expects exM
  have hn := I.n4
  have hb := I.b4
  refine lp_run (F := fun fuel k z => f_R_expects_5 N land g r fuel z (iN k)) (f := exS (r.2 1) land g) (fin := fun z => some z) (n := cn (r.2 1) 4) (fun fuel z => ?_) (fun fuel k z hk => ?_) _ 0 0 N (by omega) (by omega)
  · simp only [f_R_expects_5, rlm4, hn, ob, i_le_rfl, ↓reduceIte]
  · simp only [f_R_expects_5, rlm4, hn, ob, iN_nle hk (by omega), ↓reduceIte, ld20 (r := r) (show k < 24 by omega), ld21 (r := r) (show k < 24 by omega), ld22 (r := r) (show k < 24 by omega), f_R_expects_71, iN_s, f_R_costOf_eq]
    unfold exS
    by_cases h1 : r.2 1 (20 + 3 * k) = land
    · rw [if_pos h1, if_pos h1]
    · rw [if_neg h1, if_neg h1, Int32.add_zero]
theorem TRel.cost (S : Shape M t) (R : TRel M t m) (x y : Int32) : f_Manners_costOf (t + 2) x y M = some (costM m x y) := by
  rw [f_Manners_costOf_eq S.k2, R.1.2.2.1.1, R.1.2.2.1.2.1, R.1.2.2.1.2.2]
  rfl
theorem f_Lands_expectedOf_eq (S : Shape M t) (I : Inv m) (R : TRel M t m) (hN : 24 < N) (land g : Int32) : f_Lands_expectedOf N (t + 1) land g M = some (exM m land g) := by
  unfold f_Lands_expectedOf exM
  have hn := I.n4
  have hb := I.b4
  refine lp_run (F := fun fuel k z => f_Lands_expectedOf_5 N (t + 1) land g M fuel z (iN k)) (f := exS m land g) (fin := fun z => some z) (n := cn m 4) (fun fuel z => ?_) (fun fuel k z hk => ?_) _ 0 0 N (by omega) (by omega)
  · simp only [f_Lands_expectedOf_5, S.i1, R.v4, hn, ob, i_le_rfl, ↓reduceIte]
  · have h := R.hab hk
    simp only [f_Lands_expectedOf_5, S.i1, R.v4, hn, ob, iN_nle hk (by omega), l24 (show k < 24 by omega), ↓reduceIte, S.g_hland, S.g_hgreet, S.g_hweight, S.g_manners, S.c2, R.cost S, S.a3 (show k < 24 by omega), S.a4 (show k < 24 by omega), S.a5 (show k < 24 by omega), h.1, h.2.1, h.2.2, iN_s]
    unfold exS
    by_cases h1 : m (20 + 3 * k) = land
    · rw [if_pos h1, if_pos h1]
    · rw [if_neg h1, if_neg h1]
theorem f_R_dearest_eq (I : Inv (r.2 1)) (hN : 24 < N) (g : Int32) : f_R_dearest N g r = some (drM (r.2 1) g) := by
  unfold f_R_dearest drM
  have hn := I.n4
  have hb := I.b4
  refine lp_run (F := fun fuel k z => f_R_dearest_4 N g r fuel z (iN k)) (f := drS (r.2 1) g) (fin := fun z => some z) (n := cn (r.2 1) 4) (fun fuel z => ?_) (fun fuel k z hk => ?_) _ 0 0 N (by omega) (by omega)
  · simp only [f_R_dearest_4, rlm4, hn, ob, i_le_rfl, ↓reduceIte]
  · simp only [f_R_dearest_4, rlm4, hn, ob, iN_nle hk (by omega), ↓reduceIte, ld21 (r := r) (show k < 24 by omega), iN_s, f_R_costOf_eq, greater_eq]
    rfl
theorem f_Lands_greatestCostOf_eq (S : Shape M t) (I : Inv m) (R : TRel M t m) (hN : 24 < N) (g : Int32) : f_Lands_greatestCostOf N (t + 1) g M = some (drM m g) := by
  unfold f_Lands_greatestCostOf drM
  have hn := I.n4
  have hb := I.b4
  refine lp_run (F := fun fuel k z => f_Lands_greatestCostOf_4 N (t + 1) g M fuel z (iN k)) (f := drS m g) (fin := fun z => some z) (n := cn m 4) (fun fuel z => ?_) (fun fuel k z hk => ?_) _ 0 0 N (by omega) (by omega)
  · simp only [f_Lands_greatestCostOf_4, S.i1, R.v4, hn, ob, i_le_rfl, ↓reduceIte]
  · have h := R.hab hk
    simp only [f_Lands_greatestCostOf_4, S.i1, R.v4, hn, ob, iN_nle hk (by omega), l24 (show k < 24 by omega), ↓reduceIte, S.g_hgreet, S.g_manners, S.c2, R.cost S, S.a4 (show k < 24 by omega), h.2.1, iN_s, max_eq]
    rfl
theorem l32 {k : Nat} (hk : k < 32) : ¬ (32 : Int32) ≤ iN k := iN_nle hk (by decide)
theorem ite_le {α : Type} (a b : Int32) (x y : α) : (if a ≤ b then x else y) = if b < a then y else x := by
  by_cases h : a ≤ b
  · rw [if_pos h, if_neg (Int32.not_lt.mpr h)]
  · rw [if_neg h, if_pos (Int32.not_le.mp h)]
theorem f_R_bestOf_eq (I : Inv (r.2 1)) (hN : 40 < N) (land : Int32) : f_R_bestOf N land r = some (leM (exM (r.2 1) land)) := by
  unfold f_R_bestOf leM
  refine lp_run (F := fun fuel k z => f_R_bestOf_4 N land r fuel z (iN k)) (f := leS (exM (r.2 1) land)) (fin := fun z => some z) (n := 32) (fun fuel z => ?_) (fun fuel k z hk => ?_) _ 1 0 N (by omega) (by omega)
  · exact if_pos (i_le_rfl 32)
  · simp only [f_R_bestOf_4, l32 hk, ob, ↓reduceIte, f_R_expects_eq I (show 24 < N by omega), iN_s, ite_le]
    unfold leS
    by_cases h : exM (r.2 1) land (iN k) < exM (r.2 1) land z
    · rw [if_pos h, if_pos h]
    · rw [if_neg h, if_neg h]
theorem f_Lands_bestIn_eq (S : Shape M t) (I : Inv m) (R : TRel M t m) (hN : 40 < N) (land : Int32) : f_Lands_bestIn N (t + 1) land M = some (leM (exM m land)) := by
  unfold f_Lands_bestIn leM
  simp only [S.c1, ob, f_Lands_expectedOf_eq S I R (show 24 < N by omega)]
  refine lp_run (F := fun fuel k z => f_Lands_bestIn_12 N (t + 1) land M fuel z (exM m land z) (iN k)) (f := leS (exM m land)) (fin := fun z => some z) (n := 32) (fun fuel z => ?_) (fun fuel k z hk => ?_) _ 1 0 N (by omega) (by omega)
  · exact if_pos (i_le_rfl 32)
  · simp only [f_Lands_bestIn_12, l32 hk, ob, ↓reduceIte, S.c1, f_Lands_expectedOf_eq S I R (show 24 < N by omega), iN_s, ite_le]
    unfold leS
    by_cases h : exM m land (iN k) < exM m land z
    · rw [if_pos h, if_pos h]
    · rw [if_neg h, if_neg h]
theorem f_Lands_safestOfAll_eq (S : Shape M t) (I : Inv m) (R : TRel M t m) (hN : 40 < N) : f_Lands_safestOfAll N (t + 1) M = some (leM (drM m)) := by
  unfold f_Lands_safestOfAll leM
  simp only [S.c1, ob, f_Lands_greatestCostOf_eq S I R (show 24 < N by omega)]
  refine lp_run (F := fun fuel k z => f_Lands_safestOfAll_10 N (t + 1) M fuel z (drM m z) (iN k)) (f := leS (drM m)) (fin := fun z => some z) (n := 32) (fun fuel z => ?_) (fun fuel k z hk => ?_) _ 1 0 N (by omega) (by omega)
  · exact if_pos (i_le_rfl 32)
  · simp only [f_Lands_safestOfAll_10, l32 hk, ob, ↓reduceIte, S.c1, f_Lands_greatestCostOf_eq S I R (show 24 < N by omega), iN_s, ite_le]
    unfold leS
    by_cases h : drM m (iN k) < drM m z
    · rw [if_pos h, if_pos h]
    · rw [if_neg h, if_neg h]
theorem f_R_safest_eq (I : Inv (r.2 1)) (hN : 40 < N) (a0 : Int32) : f_R_safest N a0 r = some (if a0 = 0 then leM (drM (r.2 1)) else drM (r.2 1) (leM (drM (r.2 1))), r_set r 0 0) := by
  unfold f_R_safest leM
  have I2 : Inv ((r_set r 0 0).2 1) := I
  refine (lp_run (F := fun fuel k z => f_R_safest_9 N a0 fuel z (iN k) (r_set r 0 0)) (f := leS (drM (r.2 1))) (fin := fun z => some (if a0 = 0 then z else drM (r.2 1) z, r_set r 0 0)) (n := 32) (fun fuel z => ?_) (fun fuel k z hk => ?_) _ 1 0 N (by omega) (by omega))
  · simp only [f_R_safest_9, f_R_dearest_eq I2 (show 24 < N by omega), ob]
    rw [if_pos (show (32 : Int32) ≤ iN 32 from i_le_rfl 32)]
    by_cases h : a0 = 0
    · rw [if_pos h, if_pos h]
    · rw [if_neg h, if_neg h]
      rfl
  · simp only [f_R_safest_9, l32 hk, ob, ↓reduceIte, f_R_dearest_eq I2 (show 24 < N by omega), iN_s, ite_le]
    show (if drM (r.2 1) (iN k) < drM (r.2 1) z then _ else _) = _
    unfold leS
    by_cases h : drM (r.2 1) (iN k) < drM (r.2 1) z
    · rw [if_pos h, if_pos h]
    · rw [if_neg h, if_neg h]
end Lb
