section Fm
variable {N x o t B : Nat} {ps ys : Nat → Nat} {M K : Mem} {r q : Rho} {a b d e v g l : Int32} {n p s c k : Nat} {m m2 tp : Nat → Int32}
/-! long numbers -/
theorem lg_le {a b : Int64} : lg_cmp a b ≤ 0 ↔ ¬ b < a := by
  unfold lg_cmp
  by_cases h : a > b
  · rw [if_pos h]
    exact ⟨fun q => absurd q (by decide), fun q => absurd h q⟩
  · rw [if_neg h]
    refine ⟨fun _ => h, fun _ => ?_⟩
    by_cases h2 : a = b
    · rw [if_pos h2]; decide
    · rw [if_neg h2]; decide
theorem lg_e0 {a b : Int64} : lg_cmp a b = 0 ↔ a = b := by
  unfold lg_cmp
  by_cases h : a > b
  · rw [if_pos h]
    exact ⟨fun q => absurd q (by decide), fun q => absurd (q ▸ h) (Int64.lt_irrefl)⟩
  · rw [if_neg h]
    by_cases h2 : a = b
    · rw [if_pos h2]; exact ⟨fun _ => h2, fun _ => rfl⟩
    · rw [if_neg h2]; exact ⟨fun q => absurd q (by decide), fun q => absurd q h2⟩
def jN (n : Nat) : Int64 := Int64.ofNat n
theorem jN_i {n : Nat} (h : n < 9223372036854775808) : (jN n).toInt = n := Int64.toInt_ofNat_of_lt h
theorem jN_m (a b : Nat) : jN a * jN b = jN (a * b) := (Int64.ofNat_mul a b).symm
theorem jN_lt {a b : Nat} (ha : a < 9223372036854775808) (hb : b < 9223372036854775808) : jN a < jN b ↔ a < b := by
  rw [Int64.lt_iff_toInt_lt, jN_i ha, jN_i hb]
  exact Int.ofNat_lt
theorem jN_of {n : Nat} (h : n < 2147483648) : Int32.toInt64 (iN n) = jN n := by
  apply Int64.toInt_inj.mp
  rw [Int32.toInt_toInt64, iN_toInt h, jN_i (by omega)]
theorem jN_e {a b : Nat} (ha : a < 9223372036854775808) (hb : b < 9223372036854775808) : jN a = jN b ↔ a = b := by
  constructor
  · intro h
    have h2 : (jN a).toInt = (jN b).toInt := by rw [h]
    rw [jN_i ha, jN_i hb] at h2
    exact Int.ofNat_inj.mp h2
  · intro h; rw [h]
/-- a product of weights -/
def prM (m tp : Nat → Int32) (n : Nat) (l : Int32) : Int64 := lp (fun k z => z * Int32.toInt64 (wtM m l (tp k))) n 0 1
theorem pr_all (f : Nat → Int32) (h : ∀ k, ∃ w, w ≤ 216 ∧ f k = iN w) : ∀ n, ∃ y, y ≤ 216 ^ n ∧ lp (fun k z => z * Int32.toInt64 (f k)) n 0 1 = jN y := by
  intro n
  induction n with
  | zero => exact ⟨1, by decide, rfl⟩
  | succ n ih =>
    obtain ⟨y, h1, h2⟩ := ih
    obtain ⟨w, h3, h4⟩ := h n
    refine ⟨y * w, ?_, ?_⟩
    · rw [Nat.pow_succ]
      exact Nat.mul_le_mul h1 h3
    · rw [lp_snoc, h2, Nat.zero_add, h4, jN_of (by omega), jN_m]
theorem pr_nn (I : Inv m) (tp : Nat → Int32) (hn : n ≤ 4) (l : Int32) : ∃ y, y ≤ 2176782336 ∧ prM m tp n l = jN y := by
  obtain ⟨y, h1, h2⟩ := pr_all (fun k => wtM m l (tp k)) (fun k => by
    obtain ⟨w, h1, h2⟩ := wtM_nn I l (tp k)
    exact ⟨w, by omega, h2⟩) n
  refine ⟨y, Nat.le_trans h1 ?_, h2⟩
  exact Nat.le_trans (Nat.pow_le_pow_right (by decide) hn) (by decide)
theorem weightP_eq (G : GS N x o ps ys M r) (hN : 40 < N) (hn : n ≤ 4) (ht : ∀ k, k < n → okR (r.2 7 k) 32) (l : Int32) : f_CT_weightProduct N x l (iN n) M = some (prM (r.2 1) (r.2 7) n l) := by
  unfold f_CT_weightProduct prM
  refine lp_run (F := fun fuel k z => f_CT_weightProduct_5 N x l (iN n) M fuel z (iN k)) (f := fun k z => z * Int32.toInt64 (wtM (r.2 1) l (r.2 7 k))) (fin := fun z => some z) (n := n) (fun fuel z => ?_) (fun fuel k z hk => ?_) _ 0 1 N (by omega) (by omega)
  · rw [f_CT_weightProduct_5, if_pos (i_le_rfl _)]
  · have e : m_iv M (x + 1) k = r.2 7 k := G.2.2.2.2.1.2.2 k (by omega)
    rw [f_CT_weightProduct_5, if_neg (iN_nle hk (by omega)), if_neg (show ¬ (4 : Int32) ≤ iN k from iN_nle (n := 4) (by omega) (by decide)), G.A.gN, ob, G.S.g_lands, ob, G.A.gT, ob, G.A.aT (by omega), ob, G.S.c1, ob, e, f_Lands_weightOf_eq G.S G.I G.R (by omega) _ _ (okR_ne (ht k hk)), ob, iN_s]
theorem allP_eq (G : GS N x o ps ys M r) (hN : 40 < N) (hn : n ≤ 4) (l : Int32) : f_CT_allWeightProduct N x l (iN n) M = some (prM (r.2 1) (fun _ => -1) n l) := by
  unfold f_CT_allWeightProduct prM
  refine lp_run (F := fun fuel k z => f_CT_allWeightProduct_5 N x l (iN n) M fuel z (iN k)) (f := fun k z => z * Int32.toInt64 (wtM (r.2 1) l (-1))) (fin := fun z => some z) (n := n) (fun fuel z => ?_) (fun fuel k z hk => ?_) _ 0 1 N (by omega) (by omega)
  · rw [f_CT_allWeightProduct_5, if_pos (i_le_rfl _)]
  · rw [f_CT_allWeightProduct_5, if_neg (iN_nle hk (by omega)), if_neg (show ¬ (4 : Int32) ≤ iN k from iN_nle (n := 4) (by omega) (by decide)), G.A.gN, ob, G.S.g_lands, ob, G.S.c1, ob, f_Lands_allWeightIn_eq G.S G.I G.R (by omega), ob, iN_s]
theorem likely0_eq (I : Inv (r.2 1)) (hN : 40 < N) (hn : n ≤ 4) (l : Int32) : f_R_likely N l (iN n) 0 r = some (if wtM (r.2 1) l (-1) = 0 then 0 else prM (r.2 1) (r.2 7) n l) := by
  unfold f_R_likely prM
  refine lp_run (F := fun fuel k z => f_R_likely_6 N l (iN n) 0 r fuel z (iN k)) (f := fun k z => z * Int32.toInt64 (wtM (r.2 1) l (r.2 7 k))) (fin := fun z => some (if wtM (r.2 1) l (-1) = 0 then 0 else z)) (n := n) (fun fuel z => ?_) (fun fuel k z hk => ?_) _ 0 1 N (by omega) (by omega)
  · rw [f_R_likely_6, if_pos (i_le_rfl _), f_R_weight_eq I (by omega), ob]
    by_cases h : wtM (r.2 1) l (-1) = 0
    · rw [if_pos h, if_pos h, if_pos rfl]
    · rw [if_neg h, if_neg h]
  · rw [f_R_likely_6, if_neg (iN_nle hk (by omega)), if_pos rfl, rld7 (by omega), ob]
    unfold f_R_likely_31
    rw [f_R_weight_eq I (by omega), ob, iN_s]
theorem likely1_eq (I : Inv (r.2 1)) (hN : 40 < N) (hn : n ≤ 4) (l : Int32) : f_R_likely N l (iN n) 1 r = some (prM (r.2 1) (fun _ => -1) n l) := by
  unfold f_R_likely prM
  refine lp_run (F := fun fuel k z => f_R_likely_6 N l (iN n) 1 r fuel z (iN k)) (f := fun k z => z * Int32.toInt64 (wtM (r.2 1) l (-1))) (fin := fun z => some z) (n := n) (fun fuel z => ?_) (fun fuel k z hk => ?_) _ 0 1 N (by omega) (by omega)
  · rw [f_R_likely_6, if_pos (i_le_rfl _), f_R_weight_eq I (by omega), ob]
    by_cases h : wtM (r.2 1) l (-1) = 0
    · rw [if_pos h, if_neg i1n]
    · rw [if_neg h]
  · rw [f_R_likely_6, if_neg (iN_nle hk (by omega)), if_neg i1n]
    unfold f_R_likely_31
    rw [f_R_weight_eq I (by omega), ob, iN_s]
/-! which lands may have been, and which most likely -/
abbrev lkB (m tp : Nat → Int32) (n : Nat) (l : Int32) : Prop := wtM m l (-1) ≠ 0 ∧ prM m tp n l ≠ 0
def lbS (m tp : Nat → Int32) (n : Nat) (k : Nat) (z : Int32) : Int32 := if lkB m tp n (iN k) then z ||| ((1 : Int32) <<< (iN k &&& 31)) else z
def ltS (m tp : Nat → Int32) (n : Nat) (k : Nat) (z : Int32) : Int32 :=
  if lkB m tp n (iN k) then (if z = -1 then iN k else (if prM m tp n z * prM m (fun _ => -1) n (iN k) < prM m tp n (iN k) * prM m (fun _ => -1) n z then iN k else z)) else z
theorem le0_iff (h : ∃ w, w ≤ 216 ∧ v = iN w) : v ≤ 0 ↔ v = 0 := by
  obtain ⟨w, h1, rfl⟩ := h
  constructor
  · intro h
    by_cases hw : w = 0
    · rw [hw]; rfl
    · exact absurd h (iN_nle (n := w) (k := 0) (by omega) (by omega))
  · intro h; rw [h]; decide
theorem wt_l (I : Inv m) (l : Int32) : ∃ w, w ≤ 216 ∧ wtM m l (-1) = iN w := by
  obtain ⟨w, h1, h2⟩ := wtM_nn I l (-1)
  exact ⟨w, by omega, h2⟩
theorem likelyLands_eq (G : GS N x o ps ys M r) (hN : 40 < N) (hn : n ≤ 4) (ht : ∀ k, k < n → okR (r.2 7 k) 32) : f_CT_likelyLands N x (iN n) M = some (lp (lbS (r.2 1) (r.2 7) n) (cn (r.2 1) 3) 0 0) := by
  have h3 := G.I.b3
  unfold f_CT_likelyLands
  refine lp_run (F := fun fuel k z => f_CT_likelyLands_4 N x (iN n) M fuel z (iN k)) (f := lbS (r.2 1) (r.2 7) n) (fin := fun z => some z) (n := cn (r.2 1) 3) (fun fuel z => ?_) (fun fuel k z hk => ?_) _ 0 0 N (by omega) (by omega)
  · rw [f_CT_likelyLands_4, G.A.gN, ob, G.S.g_lands, ob, G.S.i1, ob, G.R.v3, G.I.n3, if_pos (i_le_rfl _)]
  · rw [f_CT_likelyLands_4, G.A.gN, ob, G.S.g_lands, ob, G.S.i1, ob, G.R.v3, G.I.n3, if_neg (iN_nle hk (by omega)), ob, G.S.g_lands, ob, G.S.c1, ob, f_Lands_allWeightIn_eq G.S G.I G.R (by omega), ob, G.A.c, ob, weightP_eq G hN hn ht, ob, iN_s]
    unfold lbS lkB
    have e1 := le0_iff (wt_l G.I (iN k))
    obtain ⟨y, y1, y2⟩ := pr_nn G.I (r.2 7) hn (iN k)
    have e2 : lg_cmp (prM (r.2 1) (r.2 7) n (iN k)) 0 ≤ 0 ↔ prM (r.2 1) (r.2 7) n (iN k) = 0 := by
      rw [lg_le, y2, show (0 : Int64) = jN 0 from rfl, jN_lt (by decide) (by omega), jN_e (by omega) (by decide)]
      omega
    by_cases h1 : wtM (r.2 1) (iN k) (-1) = 0
    · rw [if_pos (e1.mpr h1), if_neg (fun w => w.1 h1)]
    · rw [if_neg (fun w => h1 (e1.mp w))]
      by_cases h2 : prM (r.2 1) (r.2 7) n (iN k) = 0
      · rw [if_pos (e2.mpr h2), if_neg (fun w => w.2 h2)]
      · rw [if_neg (fun w => h2 (e2.mp w)), if_pos ⟨h1, h2⟩]
def bP (m tp : Nat → Int32) (n : Nat) (z : Int32) : Int64 := if z = -1 then 0 else prM m tp n z
def bT (m : Nat → Int32) (n : Nat) (z : Int32) : Int64 := if z = -1 then 1 else prM m (fun _ => -1) n z
theorem likeliest_eq (G : GS N x o ps ys M r) (hN : 40 < N) (hn : n ≤ 4) (ht : ∀ k, k < n → okR (r.2 7 k) 32) : f_CT_likeliestLand N x (iN n) M = some (lp (ltS (r.2 1) (r.2 7) n) (cn (r.2 1) 3) 0 (-1)) := by
  have h3 := G.I.b3
  unfold f_CT_likeliestLand
  refine lp_run (F := fun fuel k z => f_CT_likeliestLand_10 N x (iN n) M fuel z (bP (r.2 1) (r.2 7) n z) (bT (r.2 1) n z) (iN k)) (f := ltS (r.2 1) (r.2 7) n) (fin := fun z => some z) (n := cn (r.2 1) 3) (fun fuel z => ?_) (fun fuel k z hk => ?_) _ 0 (-1) N (by omega) (by omega)
  · rw [f_CT_likeliestLand_10, G.A.gN, ob, G.S.g_lands, ob, G.S.i1, ob, G.R.v3, G.I.n3, if_pos (i_le_rfl _)]
  · rw [f_CT_likeliestLand_10, G.A.gN, ob, G.S.g_lands, ob, G.S.i1, ob, G.R.v3, G.I.n3, if_neg (iN_nle hk (by omega)), G.A.c, ob, weightP_eq G hN hn ht, ob, ob, allP_eq G hN hn, ob, ob, G.S.g_lands, ob, G.S.c1, ob, f_Lands_allWeightIn_eq G.S G.I G.R (by omega), ob]
    unfold f_CT_likeliestLand_63
    rw [if_pos rfl, if_neg i1n, iN_s]
    have e1 := le0_iff (wt_l G.I (iN k))
    obtain ⟨y, y1, y2⟩ := pr_nn G.I (r.2 7) hn (iN k)
    obtain ⟨w, w1, w2⟩ := pr_nn G.I (fun _ => -1) hn (iN k)
    unfold ltS lkB
    by_cases h1 : wtM (r.2 1) (iN k) (-1) = 0
    · rw [if_pos (e1.mpr h1), if_neg (fun w => w.1 h1)]
    · rw [if_neg (fun w => h1 (e1.mp w))]
      have tk : f_CT_likeliestLand_10 N x (iN n) M fuel (iN k) (prM (r.2 1) (r.2 7) n (iN k)) (prM (r.2 1) (fun _ => -1) n (iN k)) (iN (k + 1)) = f_CT_likeliestLand_10 N x (iN n) M fuel (iN k) (bP (r.2 1) (r.2 7) n (iN k)) (bT (r.2 1) n (iN k)) (iN (k + 1)) := by
        unfold bP bT
        rw [if_neg (iN_m1 (by omega)), if_neg (iN_m1 (by omega))]
      have e2 : prM (r.2 1) (r.2 7) n (iN k) = 0 ↔ y = 0 := by
        rw [y2, show (0 : Int64) = jN 0 from rfl, jN_e (by omega) (by decide)]
      by_cases hz : z = -1
      · have b1 : bP (r.2 1) (r.2 7) n z = jN 0 := if_pos hz
        have b2 : bT (r.2 1) n z = jN 1 := if_pos hz
        have e3 : lg_cmp (prM (r.2 1) (r.2 7) n (iN k) * bT (r.2 1) n z) (bP (r.2 1) (r.2 7) n z * prM (r.2 1) (fun _ => -1) n (iN k)) ≤ 0 ↔ y = 0 := by
          rw [lg_le, y2, w2, b1, b2, jN_m, jN_m, jN_lt (by omega) (by omega)]
          omega
        by_cases h2 : prM (r.2 1) (r.2 7) n (iN k) = 0
        · rw [if_pos (e3.mpr (e2.mp h2)), if_neg (fun w => w.2 h2)]
        · rw [if_neg (fun w => h2 (e2.mpr (e3.mp w))), if_pos ⟨h1, h2⟩, if_pos hz, tk]
      · have b1 : bP (r.2 1) (r.2 7) n z = prM (r.2 1) (r.2 7) n z := if_neg hz
        have b2 : bT (r.2 1) n z = prM (r.2 1) (fun _ => -1) n z := if_neg hz
        by_cases h2 : prM (r.2 1) (r.2 7) n (iN k) = 0
        · obtain ⟨y3, y4, y5⟩ := pr_nn G.I (r.2 7) hn z
          obtain ⟨w3, w4, w5⟩ := pr_nn G.I (fun _ => -1) hn z
          have e3 : lg_cmp (prM (r.2 1) (r.2 7) n (iN k) * bT (r.2 1) n z) (bP (r.2 1) (r.2 7) n z * prM (r.2 1) (fun _ => -1) n (iN k)) ≤ 0 := by
            have hb : y3 * w ≤ 2176782336 * 2176782336 := Nat.mul_le_mul y4 w1
            have hy0 := e2.mp h2
            rw [lg_le, y2, w2, b1, b2, y5, w5, jN_m, jN_m, hy0, Nat.zero_mul, jN_lt (by omega) (by decide)]
            omega
          rw [if_pos e3, if_neg (fun w => w.2 h2)]
        · rw [if_pos (⟨h1, h2⟩ : _ ∧ _), if_neg hz]
          by_cases h4 : prM (r.2 1) (r.2 7) n z * prM (r.2 1) (fun _ => -1) n (iN k) < prM (r.2 1) (r.2 7) n (iN k) * prM (r.2 1) (fun _ => -1) n z
          · rw [if_pos h4, if_neg (fun w => lg_le.mp w (by rw [b1, b2]; exact h4)), tk]
          · rw [if_neg h4, if_pos (lg_le.mpr (by rw [b1, b2]; exact h4))]
theorem from82_eq (I : Inv (r.2 1)) (hN : 40 < N) (hn : n ≤ 4) : f_R_from_82 N a N (iN n) 0 (-1) 0 r = some (if a = 0 then lp (lbS (r.2 1) (r.2 7) n) (cn (r.2 1) 3) 0 0 else lp (ltS (r.2 1) (r.2 7) n) (cn (r.2 1) 3) 0 (-1), r) := by
  have h3 := I.b3
  have key : ∀ (j k fuel : Nat) (u z : Int32), k + j = cn (r.2 1) 3 → j < fuel → (z = -1 ∨ wtM (r.2 1) z (-1) ≠ 0) → f_R_from_82 N a fuel (iN n) u z (iN k) r = some (if a = 0 then lp (lbS (r.2 1) (r.2 7) n) j k u else lp (ltS (r.2 1) (r.2 7) n) j k z, r) := by
    intro j
    induction j with
    | zero =>
      intro k fuel u z hk hf hz
      obtain ⟨fu, rfl⟩ : ∃ fu, fuel = fu + 1 := ⟨fuel - 1, by omega⟩
      rw [f_R_from_82, rlm3, ob, I.n3, if_pos (iN_yle (by omega) (by omega))]
      by_cases h : a = 0
      · rw [if_pos h, if_pos h]; rfl
      · rw [if_neg h, if_neg h]; rfl
    | succ j ih =>
      intro k fuel u z hk hf hz
      obtain ⟨fu, rfl⟩ : ∃ fu, fuel = fu + 1 := ⟨fuel - 1, by omega⟩
      show _ = some (if a = 0 then lp (lbS (r.2 1) (r.2 7) n) j (k + 1) (lbS (r.2 1) (r.2 7) n k u) else lp (ltS (r.2 1) (r.2 7) n) j (k + 1) (ltS (r.2 1) (r.2 7) n k z), r)
      rw [f_R_from_82, rlm3, ob, I.n3, if_neg (iN_nle (by omega) (by omega)), likely0_eq I hN hn, ob, iN_s]
      unfold lbS ltS f_R_from_162
      by_cases hk2 : lkB (r.2 1) (r.2 7) n (iN k)
      · rw [if_pos hk2, if_pos hk2, if_neg hk2.1, if_neg (fun w => hk2.2 (lg_e0.mp w))]
        by_cases hz1 : z = -1
        · rw [if_pos hz1, if_pos hz1, iN_s]
          exact ih (k + 1) fu _ _ (by omega) (by omega) (Or.inr hk2.1)
        · rw [if_neg hz1, if_neg hz1, ob, likely1_eq I hN hn, ob, likely0_eq I hN hn, ob, if_neg (hz.resolve_left hz1), likely1_eq I hN hn, ob]
          by_cases h4 : prM (r.2 1) (r.2 7) n z * prM (r.2 1) (fun _ => -1) n (iN k) < prM (r.2 1) (r.2 7) n (iN k) * prM (r.2 1) (fun _ => -1) n z
          · rw [if_pos h4, if_neg (fun w => lg_le.mp w h4), iN_s]
            exact ih (k + 1) fu _ _ (by omega) (by omega) (Or.inr hk2.1)
          · rw [if_neg h4, if_pos (lg_le.mpr h4)]
            exact ih (k + 1) fu _ _ (by omega) (by omega) hz
      · rw [if_neg hk2, if_neg hk2]
        have e0 : (if wtM (r.2 1) (iN k) (-1) = 0 then 0 else prM (r.2 1) (r.2 7) n (iN k)) = (0 : Int64) := by
          by_cases h : wtM (r.2 1) (iN k) (-1) = 0
          · rw [if_pos h]
          · rw [if_neg h]
            by_cases h2 : prM (r.2 1) (r.2 7) n (iN k) = 0
            · exact h2
            · exact absurd ⟨h, h2⟩ hk2
        rw [e0, if_pos (lg_e0.mpr rfl)]
        exact ih (k + 1) fu _ _ (by omega) (by omega) hz
  exact key (cn (r.2 1) 3) 0 N 0 (-1) (by omega) (by omega) (Or.inl rfl)
/-! the tape's numbers are greetings, or one isn't -/
theorem from_ok_cl (G : GS N x o ps ys M r) (hn : n ≤ 4) (ht : ∀ k, k < n → okR (r.2 7 k) 32) : ∀ (j k fuel : Nat), k + j = n → j < fuel → ∃ fu, f_CT_from_23 N x a fuel (iN n) (iN k) M = f_CT_from_23 N x a (fu + 1) (iN n) (iN n) M := by
  intro j
  induction j with
  | zero =>
    intro k fuel hk hf
    obtain ⟨fu, rfl⟩ : ∃ fu, fuel = fu + 1 := ⟨fuel - 1, by omega⟩
    obtain rfl : k = n := by omega
    exact ⟨fu, rfl⟩
  | succ j ih =>
    intro k fuel hk hf
    obtain ⟨fu, rfl⟩ : ∃ fu, fuel = fu + 1 := ⟨fuel - 1, by omega⟩
    have e : m_iv M (x + 1) k = r.2 7 k := G.2.2.2.2.1.2.2 k (by omega)
    obtain ⟨w, hw, ew⟩ := ht k (by omega)
    obtain ⟨f2, h2⟩ := ih (k + 1) fu (by omega) (by omega)
    refine ⟨f2, ?_⟩
    rw [f_CT_from_23, if_neg (iN_nle (by omega) (by omega)), G.A.gT, ob, G.A.aT (by omega), ob, e, ew, show f_CT_needNumber (iN w) 0 31 M = some (.inl (), M) from needN_y (lo := 0) (hi := 31) (by omega) (by omega) (by decide), ob, sx_l, iN_s]
    exact h2
theorem from_no_cl (G : GS N x o ps ys M r) (hn : n ≤ 4) : ∀ (j k fuel : Nat), k + j = n → j < fuel → (∃ i, k ≤ i ∧ i < n ∧ ¬ okR (r.2 7 i) 32) → f_CT_from_23 N x a fuel (iN n) (iN k) M = some (.inr "java/lang/IllegalArgumentException", m_new M (0, 0)) := by
  intro j
  induction j with
  | zero =>
    rintro k fuel hk hf ⟨i, h1, h2, h3⟩
    omega
  | succ j ih =>
    rintro k fuel hk hf ⟨i, h1, h2, h3⟩
    obtain ⟨fu, rfl⟩ : ∃ fu, fuel = fu + 1 := ⟨fuel - 1, by omega⟩
    have e : m_iv M (x + 1) k = r.2 7 k := G.2.2.2.2.1.2.2 k (by omega)
    rw [f_CT_from_23, if_neg (iN_nle (by omega) (by omega)), G.A.gT, ob, G.A.aT (by omega), ob, e]
    by_cases hk2 : okR (r.2 7 k) 32
    · have hik : i ≠ k := by rintro rfl; exact h3 hk2
      obtain ⟨w, hw, ew⟩ := hk2
      rw [ew, show f_CT_needNumber (iN w) 0 31 M = some (.inl (), M) from needN_y (lo := 0) (hi := 31) (by omega) (by omega) (by decide), ob, sx_l, iN_s]
      exact ih (k + 1) fu (by omega) (by omega) ⟨i, by omega, h2, h3⟩
    · rw [show f_CT_needNumber (r.2 7 k) 0 31 M = some (.inr "java/lang/IllegalArgumentException", m_new M (0, 0)) from needN_n (lo := 0) (hi := 31) (fun ⟨w, w1, w2, w3⟩ => hk2 ⟨w, by omega, w3⟩) (by decide) (by decide), ob, sx_r]
theorem from_ok_md (hn : n ≤ 4) (ht : ∀ k, k < n → okR (r.2 7 k) 32) : ∀ (j k fuel : Nat), k + j = n → j < fuel → f_R_from_24 N a fuel (iN n) 1 (iN k) r = f_R_from_61 N a (iN n) 0 r := by
  intro j
  induction j with
  | zero =>
    intro k fuel hk hf
    obtain ⟨fu, rfl⟩ : ∃ fu, fuel = fu + 1 := ⟨fuel - 1, by omega⟩
    rw [f_R_from_24, if_pos (iN_yle (by omega) (by omega))]
    unfold f_R_from_51
    rw [if_neg i1n]
  | succ j ih =>
    intro k fuel hk hf
    obtain ⟨fu, rfl⟩ : ∃ fu, fuel = fu + 1 := ⟨fuel - 1, by omega⟩
    rw [f_R_from_24, if_neg (iN_nle (by omega) (by omega)), if_neg i1n, rld7 (by omega), ob, isCode_y (ht k (by omega)), ob, iN_s]
    exact ih (k + 1) fu (by omega) (by omega)
theorem from_0_md (fuel k : Nat) : f_R_from_24 N a (fuel + 1) (iN n) 0 (iN k) r = f_R_from_61 N a (iN n) 1 r := by
  rw [f_R_from_24]
  unfold f_R_from_51
  by_cases h : iN n ≤ iN k
  · rw [if_pos h, if_pos rfl]
  · rw [if_neg h, if_pos rfl, if_pos rfl]
theorem from_no_md (hn : n ≤ 4) : ∀ (j k fuel : Nat), k + j = n → j + 1 < fuel → (∃ i, k ≤ i ∧ i < n ∧ ¬ okR (r.2 7 i) 32) → f_R_from_24 N a fuel (iN n) 1 (iN k) r = f_R_from_61 N a (iN n) 1 r := by
  intro j
  induction j with
  | zero =>
    rintro k fuel hk hf ⟨i, h1, h2, h3⟩
    omega
  | succ j ih =>
    rintro k fuel hk hf ⟨i, h1, h2, h3⟩
    obtain ⟨fu, rfl⟩ : ∃ fu, fuel = fu + 1 := ⟨fuel - 1, by omega⟩
    rw [f_R_from_24, if_neg (iN_nle (by omega) (by omega)), if_neg i1n, rld7 (by omega), ob]
    by_cases hk2 : okR (r.2 7 k) 32
    · have hik : i ≠ k := by rintro rfl; exact h3 hk2
      rw [isCode_y hk2, ob, iN_s]
      exact ih (k + 1) fu (by omega) (by omega) ⟨i, by omega, h2, h3⟩
    · obtain ⟨f2, rfl⟩ : ∃ f2, fu = f2 + 1 := ⟨fu - 1, by omega⟩
      rw [isCode_n hk2, ob, iN_s]
      exact from_0_md f2 (k + 1)
/-- the tape used up -/
theorem GS.used (G : GS N x o ps ys M r) (y : Int32) : GS N x o ps ys (m_setI M x 1 0) (r_set (r_set r 8 0) 0 y) :=
  G.tape (n := 0) ⟨rfl, rfl, rfl, rfl⟩ (fun b h1 _ => iv_ne h1) (fun j hj => by rw [iv_same, up1_ne hj]) (by rw [iv_same, up1_same]; rfl) (by decide) (fun k hk => by rw [iv_ne (by omega)]; exact G.2.2.2.2.1.2.2 k hk) ((set_f (by decide)).trans (set_s r 8 0)) ⟨rfl, rfl, rfl, rfl, rfl, rfl, id⟩
theorem op_from (G : GS N x o ps ys M r) (hN : 20000 ≤ N) : Both N x o (f_L_from N x a o M) (f_R_from N a r) := by
  have p1 := G.2.2.2.2.1.1
  obtain ⟨n8, b8⟩ := nb_c G.2.2.2.2.1.2.1 (by decide)
  generalize hn : (r.1 8).toNatClampNeg = n at *
  have up : f_CT_useTapeUp x M = some (iN n, m_setI M x 1 0) := by
    unfold f_CT_useTapeUp
    rw [G.A.i, ob, p1, n8, G.A.p, ob]
  have bad : f_R_from N a r = f_R_from_61 N a (iN n) 1 (r_set r 8 0) → f_L_from N x a o M = some (1, m_new (m_setI M x 1 0) (0, 0)) → Both N x o (f_L_from N x a o M) (f_R_from N a r) := fun h1 h2 => by
    refine both_ex (c := 1) (v := 0) (G.used 1).new i1n (th0 _ 1) h2 (h1.trans ?_)
    unfold f_R_from_61
    rw [th0, if_neg i10]
  by_cases h4 : n ≤ 4
  · by_cases hall : ∀ k, k < n → okR (r.2 7 k) 32
    · have G2 := G.used 0
      have hall2 : ∀ k, k < n → okR ((r_set (r_set r 8 0) 0 0).2 7 k) 32 := hall
      obtain ⟨fu, c1⟩ := from_ok_cl (N := N) (a := a) G2 h4 hall2 n 0 N (by omega) (by omega)
      refine both_ok (v := if a = 0 then lp (lbS (r.2 1) (r.2 7) n) (cn (r.2 1) 3) 0 0 else lp (ltS (r.2 1) (r.2 7) n) (cn (r.2 1) 3) 0 (-1)) G2 (th0 _ 0) ?_ ?_
      · unfold f_L_from f_CT_from
        rw [G.A.c, ob, ob, up, ob, if_pos (show iN n ≤ 4 from iN_yle (k := 4) h4 (by decide))]
        have c2 : f_CT_from_23 N x a N (iN n) 0 (m_setI M x 1 0) = _ := c1
        dsimp only
        rw [c2, f_CT_from_23, if_pos (i_le_rfl _), G2.A.c, ob, ob, likelyLands_eq G2 (by omega) h4 hall2, likeliest_eq G2 (by omega) h4 hall2, ob, ob]
        by_cases h : a = 0
        · rw [if_pos h, if_pos h, ob, sx_l]
          rfl
        · rw [if_neg h, if_neg h, ob, sx_l]
          rfl
      · unfold f_R_from f_R_from_20
        rw [n8, if_neg (show ¬ (4 : Int32) < iN n from iN_nlt (k := 4) h4 (by decide)), show f_R_from_24 N a N (iN n) 1 0 (r_set r 8 0) = _ from from_ok_md (r := r_set r 8 0) h4 hall n 0 N (by omega) (by omega)]
        unfold f_R_from_61
        rw [th0, if_pos i00, from82_eq (r := r_set (r_set r 8 0) 0 0) G.I (by omega) h4]
        rfl
    · have hex : ∃ i, 0 ≤ i ∧ i < n ∧ ¬ okR (r.2 7 i) 32 := by
        refine Classical.byContradiction fun hno => hall fun k hk => Classical.byContradiction fun hk2 => hno ⟨k, Nat.zero_le k, hk, hk2⟩
      refine bad ?_ ?_
      · unfold f_R_from f_R_from_20
        rw [n8, if_neg (show ¬ (4 : Int32) < iN n from iN_nlt (k := 4) h4 (by decide))]
        exact from_no_md (r := r_set r 8 0) h4 n 0 N (by omega) (by omega) hex
      · unfold f_L_from f_CT_from
        have c2 : f_CT_from_23 N x a N (iN n) 0 (m_setI M x 1 0) = _ := from_no_cl (N := N) (a := a) (G.used 0) h4 n 0 N (by omega) (by omega) hex
        rw [G.A.c, ob, ob, up, ob, if_pos (show iN n ≤ 4 from iN_yle (k := 4) h4 (by decide))]
        dsimp only
        rw [c2, ob, sx_r, if_pos rfl]
  · refine bad ?_ ?_
    · unfold f_R_from f_R_from_20
      obtain ⟨f2, rfl⟩ : ∃ f2, N = f2 + 1 := ⟨N - 1, by omega⟩
      rw [n8, if_pos (show (4 : Int32) < iN n from iN_ylt (k := 4) (by omega) (by omega))]
      exact from_0_md f2 0
    · unfold f_L_from f_CT_from
      rw [G.A.c, ob, ob, up, ob, if_neg (show ¬ iN n ≤ 4 from iN_nle (k := 4) (by omega) (by omega)), ob, sx_r, if_pos rfl]
end Fm
