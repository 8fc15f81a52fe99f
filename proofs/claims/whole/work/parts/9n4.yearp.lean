section Yp
variable {N x o t B n p k : Nat} {ps ys zs : Nat → Nat} {M K L : Mem} {r q : Rho} {fr ow pr : Nat → Int32} {a b g : Int32} {m : Nat → Int32}
theorem b01_bor (a b : Bool) : b01 a ||| b01 b = b01 (a || b) := by cases a <;> cases b <;> decide
theorem passYear_cl (G : GS N x o ps ys M r) (Y : YC M x ys n fr ow) (Yl : YL M x ys n pr) (hN : 100 < N) (hn : n ≤ 10) (hw : ∀ k, k < n → nx (ow k) 32) (hb : ∀ p, p < n → ib (fr p) p = true) : ∃ K zs, f_Years_passYear N (x + 126) M = some (b01 (chB fr n ow), K) ∧ GS N x o ps zs K r ∧ YC K x zs n fr (yrM fr n ow) ∧ YL K x zs n ow ∧ ∀ i, i < n → m_iv K (x + 128 + zs 2) i = pr i := by
  have hy := G.A.yq
  have T := G.2.2.1
  unfold f_Years_passYear
  refine lp_inv (F := fun fuel k (z : Int32 × Mem) => f_Years_passYear_4 N (x + 126) fuel z.1 (iN k) z.2) (n := n)
    (P := fun k z => Fr (x + 126) 6 (x + 628) M z.2 ∧ (∀ g, g < 32 → m_iv z.2 (x + 131) g = 0) ∧ YC z.2 x ys n fr ow ∧ YL z.2 x ys n pr ∧ (∀ i, i < k → m_iv z.2 (x + 128 + ys 2) i = yrM fr n ow i) ∧ z.1 = b01 (anyB (fun p => decide (yrM fr n ow p ≠ ow p)) k))
    (Q := fun t => ∃ K zs, t = some (b01 (chB fr n ow), K) ∧ GS N x o ps zs K r ∧ YC K x zs n fr (yrM fr n ow) ∧ YL K x zs n ow ∧ ∀ i, i < n → m_iv K (x + 128 + zs 2) i = pr i) (fun fuel z hz => ?_) (fun fuel k z hk hz => ?_) n 0 (0, M) N (by omega) (by omega) ⟨Fr.refl, T, Y, Yl, fun i hi => absurd hi (Nat.not_lt_zero i), rfl⟩
  · obtain ⟨F, T2, ⟨w0, wy⟩, wl, ws, e1⟩ := hz
    have G2 := G.frY F T2
    have A2 := G2.A
    obtain ⟨-, r2, r3, r4, r5⟩ := A2.2.2.2.2.2.1.1.2
    have r1 := A2.2.2.2.2.2.1.1.2.1
    refine ⟨m_setR (m_setR (m_setR z.2 (x + 126) 3 (some (x + 128 + ys 0))) (x + 126) 2 (some (x + 128 + ys 2))) (x + 126) 4 (some (x + 128 + ys 1)), fun i => if i = 0 then ys 2 else if i = 1 then ys 0 else ys 1, ?_, ?_, ⟨w0, fun i hi => ⟨(wy i hi).1, ws i hi⟩⟩, fun i hi => (wy i hi).2, wl⟩
    · show f_Years_passYear_4 N (x + 126) (fuel + 1) z.1 (iN n) z.2 = _
      have p3 : pR z.2 9 (x + 126) 3 (x + 128 + ys 0) = some (m_setR z.2 (x + 126) 3 (some (x + 128 + ys 0))) := A2.yr 3 _
      have k4 : (m_kd (m_setR z.2 (x + 126) 3 (some (x + 128 + ys 0))) (x + 126)).1 = 19 := A2.ky
      have g4 : gR (m_setR z.2 (x + 126) 3 (some (x + 128 + ys 0))) 9 (x + 126) 4 = some (x + 128 + ys 2) := (gR_k (ci := 9) k4).trans ((if_neg (by omega)).trans r4)
      have p2 : pR (m_setR z.2 (x + 126) 3 (some (x + 128 + ys 0))) 9 (x + 126) 2 (x + 128 + ys 2) = some (m_setR (m_setR z.2 (x + 126) 3 (some (x + 128 + ys 0))) (x + 126) 2 (some (x + 128 + ys 2))) := pR_k (ci := 9) k4
      have p4 : pR (m_setR (m_setR z.2 (x + 126) 3 (some (x + 128 + ys 0))) (x + 126) 2 (some (x + 128 + ys 2))) 9 (x + 126) 4 (x + 128 + ys 1) = some (m_setR (m_setR (m_setR z.2 (x + 126) 3 (some (x + 128 + ys 0))) (x + 126) 2 (some (x + 128 + ys 2))) (x + 126) 4 (some (x + 128 + ys 1))) := pR_k (ci := 9) k4
      rw [f_Years_passYear_4, A2.yi, ob, w0, if_pos (i_le_rfl _), A2.y3, ob, A2.y2, ob, p3, ob, g4, ob, p2, ob, p4, ob, e1, zg_b, ob]
      rfl
    · refine G2.rvY rfl rfl rfl (fun b hb => ?_) ?_ ?_
      · funext j
        rw [rv_setR, if_neg (fun q => hb q.1), rv_setR, if_neg (fun q => hb q.1), rv_setR, if_neg (fun q => hb q.1)]
      · simp only [rv_setR]
        refine ⟨?_, ?_, ?_, ?_, ?_⟩
        · simpa using r1
        · simp
        · simp
        · simp
        · simpa using r5
      · simp only [if_true, show ¬ (1 : Nat) = 0 by decide, show ¬ (2 : Nat) = 0 by decide, show ¬ (2 : Nat) = 1 by decide, if_false]
        obtain ⟨h1, h2, h3, h4, h5, h6⟩ := hy
        exact ⟨h3, h1, h2, fun q => h5 q.symm, fun q => h6 q.symm, h4⟩
  · obtain ⟨F, T2, ⟨w0, wy⟩, wl, ws, e1⟩ := hz
    have G2 := G.frY F T2
    have A2 := G2.A
    obtain ⟨K, c1, F2, T3⟩ := mostAround_cl (N := N) (p := k) A2 ⟨w0, wy⟩ T2 hN hn hw hk (hb k hk)
    have ey : tkM (fr k) ow n (ow k) = yrM fr n ow k := (if_pos hk).symm
    rw [ey] at c1
    have F3 : Fr (x + 126) 6 (x + 628) M K := F.trans (F2.mono fun b h1 h2 => by omega)
    have G3 := G.frY F3 T3
    have F4 : Fr (x + 126) 6 (x + 628) K (m_setI K (x + 128 + ys 2) k (yrM fr n ow k)) := Fr.setI (by omega) (by omega) (by omega)
    have ne0 : x + 128 + ys 0 ≠ x + 128 + ys 2 := by omega
    have ne1 : x + 128 + ys 1 ≠ x + 128 + ys 2 := by omega
    have ev : ∀ b, b ≠ x + 128 + ys 2 → b < x + 131 → m_iv (m_setI K (x + 128 + ys 2) k (yrM fr n ow k)) b = m_iv z.2 b := fun b h1 h2 => by rw [iv_ne h1, F2.2.1 b (by omega) (by omega)]
    have T4 : ∀ g, g < 32 → m_iv (m_setI K (x + 128 + ys 2) k (yrM fr n ow k)) (x + 131) g = 0 := fun g hg => by
      rw [iv_ne (by omega)]; exact T3 g hg
    have G4 := G.frY (F3.trans F4) T4
    refine ⟨(b01 (anyB (fun p => decide (yrM fr n ow p ≠ ow p)) (k + 1)), m_setI K (x + 128 + ys 2) k (yrM fr n ow k)), ?_, F3.trans F4, T4, ⟨?_, fun i hi => ⟨?_, ?_⟩⟩, fun i hi => ?_, fun i hi => ?_, rfl⟩
    · show f_Years_passYear_4 N (x + 126) (fuel + 1) z.1 (iN k) z.2 = f_Years_passYear_4 N (x + 126) fuel (b01 (anyB (fun p => decide (yrM fr n ow p ≠ ow p)) k || decide (yrM fr n ow k ≠ ow k))) (iN (k + 1)) _
      rw [f_Years_passYear_4, A2.yi, ob, w0, if_neg (iN_nle hk (by omega)), A2.y4, ob, A2.yc, ob, c1, ob]
      dsimp only
      rw [G3.A.yos hy.2.2.1 (by omega), ob, G4.A.y4, ob, G4.A.yo hy.2.2.1 (by omega), ob, iv_same, up1_same, G4.A.y2, ob, G4.A.yo hy.1 (by omega), ob, ev _ ne0 (by omega), (wy k hk).2]
      unfold f_Years_passYear_44
      rw [e1, iN_s]
      by_cases h : yrM fr n ow k = ow k
      · rw [if_pos h, decide_eq_false (fun q => q h), Bool.or_false, show (0 : Int32) = b01 false from rfl, b01_bor, Bool.or_false]
      · have h2 : yrM fr n ow k ≠ ow k := h
        rw [if_neg h, decide_eq_true h2, show (1 : Int32) = b01 true from rfl, b01_bor]
    · show m_iv (m_setI K (x + 128 + ys 2) k (yrM fr n ow k)) (x + 126) 0 = _
      rw [ev _ (by omega) (by omega)]; exact w0
    · show m_iv (m_setI K (x + 128 + ys 2) k (yrM fr n ow k)) (x + 127) i = _
      rw [ev _ (by omega) (by omega)]; exact (wy i hi).1
    · show m_iv (m_setI K (x + 128 + ys 2) k (yrM fr n ow k)) (x + 128 + ys 0) i = _
      rw [ev _ ne0 (by omega)]; exact (wy i hi).2
    · show m_iv (m_setI K (x + 128 + ys 2) k (yrM fr n ow k)) (x + 128 + ys 1) i = _
      rw [ev _ ne1 (by omega)]; exact wl i hi
    · show m_iv (m_setI K (x + 128 + ys 2) k (yrM fr n ow k)) (x + 128 + ys 2) i = _
      rw [iv_same, up1_at]
      by_cases h : i = k
      · rw [if_pos h, h]
      · rw [if_neg h, F2.2.1 _ (by omega) (by omega)]
        exact ws i (by omega)
theorem frM_self (m : Nat → Int32) {p : Nat} (hp : p < 32) : ib (frM m p) p = true := by
  unfold frM
  rw [ib_or, ib_shl hp, decide_eq_true rfl, Bool.or_true]
theorem startFrom_cl (G : GS N x o ps ys M r) (S : Shape M t) (I : Inv m) (R : TRel M t m) (ht : t + 41 ≤ x + 126) (hN : 100 < N) : ∃ K, f_Years_startFrom N (x + 126) t M = some K ∧ GS N x o ps ys K r ∧ YC K x ys (cn m 5) (frM m) (owS m 0 0) ∧ YL K x ys (cn m 5) (fun _ => -1) := by
  have hy := G.A.yq
  have h5 := I.b5
  have T := G.2.2.1
  have F0 : Fr (x + 126) 6 (x + 628) M (m_setI M (x + 126) 0 (iN (cn m 5))) := Fr.setI (by omega) (by omega) (by omega)
  unfold f_Years_startFrom
  rw [S.i0, ob, R.v5, I.n5, G.A.yp, ob]
  refine lp_inv (F := fun fuel k z => f_Years_startFrom_10 N (x + 126) t fuel (iN k) z) (n := cn m 5)
    (P := fun k z => Fr (x + 126) 6 (x + 628) M z ∧ (∀ g, g < 32 → m_iv z (x + 131) g = 0) ∧ m_iv z (x + 126) 0 = iN (cn m 5) ∧ ∀ i, i < k → (m_iv z (x + 127) i = frM m i ∧ m_iv z (x + 128 + ys 0) i = owS m 0 0 i) ∧ m_iv z (x + 128 + ys 1) i = -1)
    (Q := fun t => ∃ K, t = some K ∧ GS N x o ps ys K r ∧ YC K x ys (cn m 5) (frM m) (owS m 0 0) ∧ YL K x ys (cn m 5) (fun _ => -1)) (fun fuel z hz => ?_) (fun fuel k z hk hz => ?_) (cn m 5) 0 _ N (by omega) (by omega) ⟨F0, fun g hg => by rw [iv_ne (by omega)]; exact T g hg, by rw [iv_same, up1_same], fun i hi => absurd hi (Nat.not_lt_zero i)⟩
  · obtain ⟨F, T2, w0, wy⟩ := hz
    refine ⟨z, ?_, G.frY F T2, ⟨w0, fun i hi => (wy i hi).1⟩, fun i hi => (wy i hi).2⟩
    rw [f_Years_startFrom_10, (G.frY F T2).A.yi, ob, w0, if_pos (i_le_rfl _)]
  · obtain ⟨F, T2, w0, wy⟩ := hz
    have A1 := (G.frY F T2).A
    have R1 := F.tRel R (by omega) (by omega)
    have S1 := F.shape S
    have F1 := F.trans (Fr.setI (M := z) (a := x + 127) (j := k) (v := frM m k) (by omega) (by omega) (by omega))
    have R2 := F1.tRel R (by omega) (by omega)
    have S2 := F1.shape S
    have A2 : XSk (m_setI z (x + 127) k (frM m k)) x ps ys := A1.kr rfl rfl rfl
    have A3 : XSk (m_setI (m_setI z (x + 127) k (frM m k)) (x + 128 + ys 0) k (pC m k 1)) x ps ys := A1.kr rfl rfl rfl
    refine ⟨m_setI (m_setI (m_setI z (x + 127) k (frM m k)) (x + 128 + ys 0) k (pC m k 1)) (x + 128 + ys 1) k (-1), ?_, (F1.trans (Fr.setI (by omega) (by omega) (by omega))).trans (Fr.setI (by omega) (by omega) (by omega)), fun g hg => ?_, ?_, fun i hi => ?_⟩
    · rw [f_Years_startFrom_10, A1.yi, ob, w0, if_neg (iN_nle hk (by omega)), A1.y1, ob, S1.g_people, ob, S1.g_person (show k < 10 by omega), ob, S1.iP (show k < 10 by omega), ob, R1.q5 I hk]
      show ((ast z (x + 127) (iN k) (frM m k)).bind _) = _
      rw [A1.yas (by omega), ob, A2.y2, ob, S2.g_people, ob, S2.g_person (show k < 10 by omega), ob, S2.iP (show k < 10 by omega), ob, R2.q1 I hk, A2.yos hy.1 (by omega), ob, A3.y3, ob, A3.yos hy.2.1 (by omega), ob, iN_s]
    · rw [iv_ne (by omega), iv_ne (by omega), iv_ne (by omega)]; exact T2 g hg
    · rw [iv_ne (by omega), iv_ne (by omega), iv_ne (by omega)]; exact w0
    · have e0 : m_iv (m_setI (m_setI (m_setI z (x + 127) k (frM m k)) (x + 128 + ys 0) k (pC m k 1)) (x + 128 + ys 1) k (-1)) (x + 127) = up1 (m_iv z (x + 127)) k (frM m k) := by
        rw [iv_ne (by omega), iv_ne (by omega), iv_same]
      have e1 : m_iv (m_setI (m_setI (m_setI z (x + 127) k (frM m k)) (x + 128 + ys 0) k (pC m k 1)) (x + 128 + ys 1) k (-1)) (x + 128 + ys 0) = up1 (m_iv z (x + 128 + ys 0)) k (pC m k 1) := by
        rw [iv_ne (by omega), iv_same, iv_ne (by omega)]
      have e2 : m_iv (m_setI (m_setI (m_setI z (x + 127) k (frM m k)) (x + 128 + ys 0) k (pC m k 1)) (x + 128 + ys 1) k (-1)) (x + 128 + ys 1) = up1 (m_iv z (x + 128 + ys 1)) k (-1) := by
        rw [iv_same, iv_ne (by omega), iv_ne (by omega)]
      rw [e0, e1, e2, up1_at, up1_at, up1_at]
      by_cases h : i = k
      · rw [if_pos h, if_pos h, if_pos h, h]
        refine ⟨⟨rfl, ?_⟩, rfl⟩
        unfold owS
        rw [if_pos hk, ib_0, if_neg (by decide)]
      · rw [if_neg h, if_neg h, if_neg h]
        exact wy i (by omega)
theorem tell_cl (G : GS N x o ps ys M r) (hn : cn m 5 ≤ 10) (Y : YC M x ys (cn m 5) fr (owS m 0 0)) (Yl : YL M x ys (cn m 5) pr) (hN : 100 < N) (a g : Int32) : ∃ K, f_Years_tell N (x + 126) a g M = some K ∧ GS N x o ps ys K r ∧ YC K x ys (cn m 5) fr (owS m a g) ∧ YL K x ys (cn m 5) pr := by
  have hy := G.A.yq
  have T := G.2.2.1
  have s0 : ∀ i, i < cn m 5 → owS m 0 0 i = pC m i 1 := fun i hi => by
    unfold owS
    rw [if_pos hi, ib_0, if_neg (by decide)]
  unfold f_Years_tell
  refine lp_inv (F := fun fuel k z => f_Years_tell_2 N (x + 126) a g fuel (iN k) z) (n := cn m 5)
    (P := fun k z => Fr (x + 126) 6 (x + 628) M z ∧ (∀ g, g < 32 → m_iv z (x + 131) g = 0) ∧ m_iv z (x + 126) 0 = iN (cn m 5) ∧ YL z x ys (cn m 5) pr ∧ ∀ i, i < cn m 5 → m_iv z (x + 127) i = fr i ∧ m_iv z (x + 128 + ys 0) i = if i < k then owS m a g i else pC m i 1)
    (Q := fun t => ∃ K, t = some K ∧ GS N x o ps ys K r ∧ YC K x ys (cn m 5) fr (owS m a g) ∧ YL K x ys (cn m 5) pr) (fun fuel z hz => ?_) (fun fuel k z hk hz => ?_) (cn m 5) 0 _ N (by omega) (by omega) ⟨Fr.refl, T, Y.1, Yl, fun i hi => ⟨(Y.2 i hi).1, by rw [if_neg (Nat.not_lt_zero i), (Y.2 i hi).2, s0 i hi]⟩⟩
  · obtain ⟨F, T2, w0, wl, wy⟩ := hz
    refine ⟨z, ?_, G.frY F T2, ⟨w0, fun i hi => ⟨(wy i hi).1, by rw [(wy i hi).2, if_pos hi]⟩⟩, wl⟩
    rw [f_Years_tell_2, (G.frY F T2).A.yi, ob, w0, if_pos (i_le_rfl _)]
  · obtain ⟨F, T2, w0, wl, wy⟩ := hz
    have A1 := (G.frY F T2).A
    by_cases h : ib a k = true
    · refine ⟨m_setI z (x + 128 + ys 0) k g, ?_, F.trans (Fr.setI (by omega) (by omega) (by omega)), fun g hg => ?_, ?_, fun i hi => ?_, fun i hi => ?_⟩
      · rw [f_Years_tell_2, A1.yi, ob, w0, if_neg (iN_nle hk (by omega)), f_CT_isIn_eq (by omega), ob, h, if_neg (show ¬ b01 true = 0 by decide), A1.y2, ob, A1.yos hy.1 (by omega), ob, iN_s]
      · rw [iv_ne (by omega)]; exact T2 g hg
      · rw [iv_ne (by omega)]; exact w0
      · rw [iv_ne (by omega)]; exact wl i hi
      · rw [iv_ne (by omega), iv_same, up1_at]
        refine ⟨(wy i hi).1, ?_⟩
        by_cases hik : i = k
        · rw [if_pos hik, if_pos (by omega)]
          unfold owS
          rw [if_pos hi, hik, h, if_pos rfl]
        · rw [if_neg hik, (wy i hi).2]
          by_cases h2 : i < k
          · rw [if_pos h2, if_pos (by omega)]
          · rw [if_neg h2, if_neg (by omega)]
    · refine ⟨z, ?_, F, T2, w0, wl, fun i hi => ⟨(wy i hi).1, ?_⟩⟩
      · rw [f_Years_tell_2, A1.yi, ob, w0, if_neg (iN_nle hk (by omega)), f_CT_isIn_eq (by omega), ob, Bool.eq_false_iff.mpr h, if_pos (show b01 false = 0 from rfl), iN_s]
      · rw [(wy i hi).2]
        by_cases hik : i = k
        · rw [if_neg (by omega), if_pos (by omega)]
          unfold owS
          rw [if_pos hi, hik, if_neg h]
        · by_cases h2 : i < k
          · rw [if_pos h2, if_pos (by omega)]
          · rw [if_neg h2, if_neg (by omega)]
theorem isAs_cl (A : XSk M x ps ys) (Y : YC M x ys n fr ow) (hs : ∀ i, i < n → m_iv M (x + 128 + ys 2) i = pr i) (hN : 100 < N) (hn : n ≤ 10) : ∃ v, f_Years_isAsTwoYearsAgo N (x + 126) M = some v ∧ (v = 0 ∨ (v = 1 ∧ ∀ i, i < n → ow i = pr i)) := by
  have hy := A.yq
  unfold f_Years_isAsTwoYearsAgo
  have key : ∀ (j k fuel : Nat), k + j = n → j < fuel → (∀ i, i < k → ow i = pr i) → ∃ v, f_Years_isAsTwoYearsAgo_2 N (x + 126) M fuel (iN k) = some v ∧ (v = 0 ∨ (v = 1 ∧ ∀ i, i < n → ow i = pr i)) := by
    intro j
    induction j with
    | zero =>
      intro k fuel hk hf h
      obtain ⟨fu, rfl⟩ : ∃ fu, fuel = fu + 1 := ⟨fuel - 1, by omega⟩
      obtain rfl : k = n := by omega
      exact ⟨1, by rw [f_Years_isAsTwoYearsAgo_2, A.yi, ob, Y.1, if_pos (i_le_rfl _)], Or.inr ⟨rfl, h⟩⟩
    | succ j ih =>
      intro k fuel hk hf h
      obtain ⟨fu, rfl⟩ : ∃ fu, fuel = fu + 1 := ⟨fuel - 1, by omega⟩
      have hkn : k < n := by omega
      rw [f_Years_isAsTwoYearsAgo_2, A.yi, ob, Y.1, if_neg (iN_nle (by omega) (by omega)), A.y2, ob, A.yo hy.1 (by omega), ob, A.y4, ob, A.yo hy.2.2.1 (by omega), ob, (Y.2 k hkn).2, hs k hkn, iN_s]
      by_cases he : ow k = pr k
      · rw [if_pos he]
        refine ih (k + 1) fu (by omega) (by omega) fun i hi => ?_
        by_cases hik : i = k
        · rw [hik]; exact he
        · exact h i (by omega)
      · rw [if_neg he]
        exact ⟨0, rfl, Or.inl rfl⟩
  exact key n 0 N (by omega) (by omega) fun i hi => absurd hi (Nat.not_lt_zero i)
theorem passYears_cl (G : GS N x o ps ys M r) (hc : canN n ow) (Y : YC M x ys n fr ow) (Yl : YL M x ys n (fun _ => -1)) (hN : 100 < N) (hn : n ≤ 10) (hw : ∀ k, k < n → nx (ow k) 32) (hb : ∀ p, p < n → ib (fr p) p = true) {w : Nat} (hw60 : w ≤ 60) : ∃ K zs, f_Years_passYears N (x + 126) (iN w) M = some K ∧ GS N x o ps zs K r ∧ YC K x zs n fr (itM fr n ow w) := by
  have key : ∀ (j k fuel : Nat) (zs : Nat → Nat) (K : Mem), k + j ≤ w → w ≤ k + j → j < fuel → GS N x o ps zs K r → YC K x zs n fr (itM fr n ow k) → YL K x zs n (if k = 0 then fun _ => -1 else itM fr n ow (k - 1)) → ∃ L zs, f_Years_passYears_2 N (x + 126) (iN w) fuel (iN k) K = some L ∧ GS N x o ps zs L r ∧ YC L x zs n fr (itM fr n ow w) := by
    intro j
    induction j using Nat.strongRecOn with
    | _ j ih =>
      intro k fuel zs K hk1 hk2 hf G Y Yl
      obtain ⟨fu, rfl⟩ : ∃ fu, fuel = fu + 1 := ⟨fuel - 1, by omega⟩
      by_cases hj : j = 0
      · obtain rfl : k = w := by omega
        exact ⟨K, zs, by rw [f_Years_passYears_2, if_pos (i_le_rfl _)], G, Y⟩
      · obtain ⟨K2, z2, c1, G2, Y2, L2, P2⟩ := passYear_cl (N := N) G Y Yl hN hn (itM_nx hw k) hb
        rw [f_Years_passYears_2, if_neg (iN_nle (by omega) (by omega)), G.A.yc, ob, c1, ob]
        dsimp only
        cases hch : chB fr n (itM fr n ow k) with
        | false =>
          have e1 : itM fr n ow (k + 1) = itM fr n ow k := chB_f (itM_can hc k) hch
          refine ⟨K2, z2, if_pos rfl, G2, ?_⟩
          rw [show w = k + j by omega, itM_fix e1 j, ← e1]
          exact Y2
        | true =>
          rw [if_neg (show ¬ b01 true = 0 by decide), G2.A.yc, ob]
          obtain ⟨v, c2, hv⟩ := isAs_cl (N := N) G2.A Y2 P2 hN hn
          rw [c2, ob]
          have L3 : YL K2 x z2 n (if k + 1 = 0 then fun _ => -1 else itM fr n ow (k + 1 - 1)) := by
            rw [if_neg (by omega)]; exact L2
          rcases hv with rfl | ⟨rfl, hv⟩
          · rw [if_pos rfl, iN_s]
            exact ih (j - 1) (by omega) (k + 1) fu z2 K2 (by omega) (by omega) (by omega) G2 Y2 L3
          · rw [if_neg i1n]
            have hn0 : 0 < n := by
              refine Nat.pos_of_ne_zero fun h => ?_
              rw [h] at hch
              cases hch
            have hk0 : k ≠ 0 := fun h => by
              have h1 := hv 0 hn0
              rw [if_pos h] at h1
              obtain ⟨c, hc, ec⟩ := itM_nx (fr := fr) hw (k + 1) 0 hn0
              have h2 : itM fr n ow (k + 1) 0 = -1 := h1
              rw [h2] at ec
              exact iN_m1 (by omega) ec.symm
            rw [if_neg hk0] at hv
            have two : itM fr n ow (k - 1 + 2) = itM fr n ow (k - 1) := by
              have h1 := can_eq (yrM_can fr n (itM fr n ow k)) (itM_can hc (k - 1)) hv
              rw [show k - 1 + 2 = k + 1 by omega]
              exact h1
            have e60 : (iN k + (((iN w - 1) - iN k) / 2) * 2) + 1 = iN (k + 2 * ((w - 1 - k) / 2) + 1) := by
              rw [show iN w - 1 = iN (w - 1) from iN_sub (b := 1) (by omega), iN_sub (by omega), show iN (w - 1 - k) / 2 = iN ((w - 1 - k) / 2) from iN_div (b := 2) (by omega) (by decide), show iN ((w - 1 - k) / 2) * 2 = iN ((w - 1 - k) / 2 * 2) from iN_mul _ 2, iN_add, iN_s, Nat.mul_comm]
            rw [e60]
            have t2 := itM_two two ((w - 1 - k) / 2 + 1)
            have t3 := itM_two two ((w - 1 - k) / 2)
            refine ih (w - (k + 2 * ((w - 1 - k) / 2) + 1)) (by omega) _ fu z2 K2 (by omega) (by omega) (by omega) G2 ?_ ?_
            · have e2 : itM fr n ow (k + 2 * ((w - 1 - k) / 2) + 1) = itM fr n ow (k + 1) := by
                rw [show k + 2 * ((w - 1 - k) / 2) + 1 = k - 1 + 2 * ((w - 1 - k) / 2 + 1) by omega, t2.1, ← two, show k - 1 + 2 = k + 1 by omega]
              rw [e2]
              exact Y2
            · rw [if_neg (by omega)]
              have e3 : itM fr n ow (k + 2 * ((w - 1 - k) / 2) + 1 - 1) = itM fr n ow k := by
                rw [show k + 2 * ((w - 1 - k) / 2) + 1 - 1 = k - 1 + 1 + 2 * ((w - 1 - k) / 2) by omega, t3.2, show k - 1 + 1 = k by omega]
              rw [e3]
              exact L2
  exact key w 0 N ys M (by omega) (by omega) (by omega) G Y (by rw [if_pos rfl]; exact Yl)
end Yp
