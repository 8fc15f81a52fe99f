section Mt
variable {M : Mem} {r : Rho} {t B N x y a b : Nat} {m : Nat → Int32} {lw : (Nat → Int32) → Int32} {gx gy : Int32}
theorem m3M_out (hx : x < 10) (hy : y < 10) {k : Nat} (h : k < 92 ∨ 372 ≤ k) (h2 : k ≠ 16) : m3M m x y gx gy k = m k := by
  unfold m3M
  rw [clM_out hx hy (by omega), seM_out hy hx h, seM_out hx hy h, up1_ne h2]
theorem m3M_16 (hx : x < 10) (hy : y < 10) : m3M m x y gx gy 16 = mS m x y gx gy := by
  unfold m3M
  rw [clM_out hx hy (by omega), seM_out hy hx (by omega), seM_out hx hy (by omega), up1_same]
theorem m4M_ne {m3 : Nat → Int32} {d yl dx dy : Int32} {k : Nat} (h : k < 8 ∨ 11 < k) : m4M m m3 d yl dx dy k = m3 k := by
  unfold m4M
  rw [up1_ne (by omega), up1_ne (by omega), up1_ne (by omega), up1_ne (by omega)]
theorem m5M_lo {k : Nat} (h : k < 420) (h2 : k < 8 ∨ 12 < k) : m5M m x y gx gy k = m3M m x y gx gy k := by
  unfold m5M lgM
  rw [if_neg (by omega), if_pos (by omega), m4M_ne (by omega)]
theorem m5M_out (hx : x < 10) (hy : y < 10) {k : Nat} (h : k < 92 ∨ (372 ≤ k ∧ k < 420)) (h2 : k < 8 ∨ 12 < k) (h3 : k ≠ 16) : m5M m x y gx gy k = m k := by
  rw [m5M_lo (by omega) h2, m3M_out hx hy (by omega) h3]
/-- the class's meeting, once it is known what was done -/
theorem f_Town_meetOnce_118_eq (S : Shape M t) (hw9 : ∃ w, w < 60 ∧ m_iv M (t + 9) 1 = iN w ∧ ∀ k c, k < cn m 12 → c < 8 → m_iv M (t + 10) ((w + 60 - k) % 60 * 8 + c) = lgc m k c)
    (hn9 : m_iv M (t + 9) 0 = m 12) (h12 : m 12 = iN (cn m 12) ∧ cn m 12 ≤ 60) (h7 : m_iv M t 9 = m 7) (hP : ∀ q, q < 10 → PRel M t (up1 m 16 (mS m x y gx gy)) q) (h5 : cn m 5 ≤ 10) (h6 : cn m 6 ≤ 24) (hx : x < cn m 5) (hy : y < cn m 5) (a0 a1 : Int32) :
    ∃ K, f_Town_meetOnce_118 N t a0 a1 (iN x) (iN y) gx gy (mD m x y gx gy) (mDx m x y gx gy) (mDy m x y gx gy) M = some (mD m x y gx gy, K) ∧ (m_sz K = m_sz M ∧ m_kd K = m_kd M ∧ m_rv K = m_rv M ∧ m_lv K = m_lv M) ∧ (∀ d, d < t ∨ t + 41 ≤ d → m_iv K d = m_iv M d) ∧
      (∀ d, (t + 1 ≤ d ∧ d ≤ t + 8) → m_iv K d = m_iv M d) ∧ m_iv K t = up1 (up1 (up1 (m_iv M t) 10 (m_iv M t 10 + 1)) 11 (m_iv M t 11 + mD m x y gx gy)) 13 (m_iv M t 13 + mxI (cntI (mDx m x y gx gy)) (cntI (mDy m x y gx gy))) ∧ (∀ q, q < 10 → PRel K t (m3M m x y gx gy) q) ∧ GRel K t (m5M m x y gx gy) := by
  obtain ⟨w, hw, e9, hlog⟩ := hw9
  have hx2 : x < 10 := by omega
  have hy2 : y < 10 := by omega
  have hv : (w + 1) % 60 < 60 := Nat.mod_lt _ (by decide)
  unfold f_Town_meetOnce_118
  obtain ⟨M5, h1, S5, k5, t5, n5, l5, o5⟩ := f_Town_writeDown_eq S hw e9 (iN x) (iN y) (mD m x y gx gy)
  have w5 : m_iv M5 (t + 9) 1 = iN ((w + 1) % 60) := by rw [n5, up1_ne (by decide), up1_same]
  obtain ⟨M6, q6, S6, k6, l6, o6⟩ := put_rows S5 hv (c := 3) (by decide) w5 gx
  obtain ⟨M7, q7, S7, k7, l7, o7⟩ := put_rows S6 hv (c := 4) (by decide) (by rw [o6 _ (by omega)]; exact w5) gy
  obtain ⟨M8, q8, S8, k8, l8, o8⟩ := put_rows S7 hv (c := 5) (by decide) (by rw [o7 _ (by omega), o6 _ (by omega)]; exact w5) (mDx m x y gx gy)
  obtain ⟨M9, q9, S9, k9, l9, o9⟩ := put_rows S8 hv (c := 6) (by decide) (by rw [o8 _ (by omega), o7 _ (by omega), o6 _ (by omega)]; exact w5) (mDy m x y gx gy)
  have o59 : ∀ d, d ≠ t + 10 → m_iv M9 d = m_iv M5 d := fun d hd => by rw [o9 _ hd, o8 _ hd, o7 _ hd, o6 _ hd]
  have kk9 := kk_trans (kk_trans (kk_trans (kk_trans k5 k6) k7) k8) k9
  have P9 : ∀ q, q < 10 → PRel M9 t (up1 m 16 (mS m x y gx gy)) q := fun q hq => (hP q hq).mk hq (fun b hb1 hb2 => by rw [o59 b (by omega), o5 b (by omega) (by omega) (by omega)]) rfl (fun _ _ => rfl) (fun _ _ => ⟨rfl, rfl⟩) rfl
  have c5 : cn (up1 m 16 (mS m x y gx gy)) 5 = cn m 5 := cn_cg (up1_ne (by decide))
  have c6 : cn (up1 m 16 (mS m x y gx gy)) 6 = cn m 6 := cn_cg (up1_ne (by decide))
  obtain ⟨M10, q10, S10, k10, o10, P10⟩ := learn_P S9 P9 (by omega) (by omega) (p := x) (o := y) (by omega) hy2 (mDy m x y gx gy)
  have d5 : cn (seM (up1 m 16 (mS m x y gx gy)) x y (mDy m x y gx gy)) 5 = cn m 5 := (cn_cg (seM_out hx2 hy2 (by omega))).trans c5
  have d6 : cn (seM (up1 m 16 (mS m x y gx gy)) x y (mDy m x y gx gy)) 6 = cn m 6 := (cn_cg (seM_out hx2 hy2 (by omega))).trans c6
  obtain ⟨M11, q11, S11, k11, o11, P11⟩ := learn_P S10 P10 (by omega) (by omega) (p := y) (o := x) (by omega) hx2 (mDx m x y gx gy)
  have f5 : cn (seM (seM (up1 m 16 (mS m x y gx gy)) x y (mDy m x y gx gy)) y x (mDx m x y gx gy)) 5 = cn m 5 := (cn_cg (seM_out hy2 hx2 (by omega))).trans d5
  have f6 : cn (seM (seM (up1 m 16 (mS m x y gx gy)) x y (mDy m x y gx gy)) y x (mDx m x y gx gy)) 6 = cn m 6 := (cn_cg (seM_out hy2 hx2 (by omega))).trans d6
  obtain ⟨M12, q12, S12, k12, o12, P12⟩ := cold_P S11 P11 (by omega) (by omega) (x := x) (y := y) (by omega) (by omega) (mDx m x y gx gy) (mDy m x y gx gy)
  rw [S.c0, ob, h1, ob, S5.g_log, ob, S5.c9, ob, show f_Log_put (t + 9) 3 gx M5 = some M6 from q6, ob, S6.g_log, ob, S6.c9, ob, show f_Log_put (t + 9) 4 gy M6 = some M7 from q7, ob, S7.g_log, ob, S7.c9, ob, show f_Log_put (t + 9) 5 (mDx m x y gx gy) M7 = some M8 from q8, ob, S8.g_log, ob, S8.c9, ob, show f_Log_put (t + 9) 6 (mDy m x y gx gy) M8 = some M9 from q9, ob]
  rw [S9.g_people, ob, S9.g_person hx2, ob, S9.cP hx2, ob, q10, ob, S10.g_people, ob, S10.g_person hy2, ob, S10.cP hy2, ob, q11, ob, S11.g_people, ob, S11.g_person hx2, ob, ob, S11.g_person hy2, ob, q12, ob, S12.i0, ob]
  rw [show f_Manners_countOf (mDx m x y gx gy) = some (cntI (mDx m x y gx gy)) from rfl, show f_Manners_countOf (mDy m x y gx gy) = some (cntI (mDy m x y gx gy)) from rfl, ob, ob, max_eq, ob, S12.p0, ob]
  have r12 : ∀ d, d < t + 11 ∨ t + 41 ≤ d → m_iv M12 d = m_iv M9 d := fun d hd => by rw [o12 d hd, o11 d hd, o10 d hd]
  have rt : m_iv M12 t = up1 (up1 (m_iv M t) 10 (m_iv M t 10 + 1)) 11 (m_iv M t 11 + mD m x y gx gy) := by rw [r12 t (by omega), o59 t (by omega), t5]
  refine ⟨_, rfl, kk_trans (kk_trans (kk_trans (kk_trans kk9 k10) k11) k12) ⟨rfl, rfl, rfl, rfl⟩, fun d hd => ?_, fun d hd => ?_, ?_, fun q hq => ?_, ?_, (w + 1) % 60, hv, ?_, ?_⟩
  · rw [iv_ne (by omega), r12 d (by omega), o59 d (by omega), o5 d (by omega) (by omega) (by omega)]
  · rw [iv_ne (by omega), r12 d (by omega), o59 d (by omega), o5 d (by omega) (by omega) (by omega)]
  · rw [iv_same, rt, up1_ne (k := 13) (by decide), up1_ne (k := 13) (by decide)]
    rfl
  · exact (P12 q hq).mk hq (fun b hb1 hb2 => iv_ne (by omega)) rfl (fun _ _ => rfl) (fun _ _ => ⟨rfl, rfl⟩) rfl
  · rw [iv_ne (by omega), r12 _ (by omega), o59 _ (by omega), n5, up1_same, hn9]
    show _ = lgM _ _ 12
    unfold lgM
    rw [if_pos rfl, m4M_ne (by omega), m3M_out hx2 hy2 (by omega) (by omega)]
    by_cases h9 : 60 < m 12 + 1
    · rw [if_pos h9, if_neg (Int32.not_lt.mpr (Int32.le_of_lt h9))]
    · rw [if_neg h9]
      by_cases h8 : m 12 + 1 < 60
      · rw [if_pos h8]
      · rw [if_neg h8]
        exact Int32.le_antisymm (Int32.not_lt.mp h9) (Int32.not_lt.mp h8)
  · rw [iv_ne (by omega), r12 _ (by omega), o59 _ (by omega), w5]
  · intro k c hk hc
    have hcn : cn (m5M m x y gx gy) 12 = if cn m 12 + 1 < 60 then cn m 12 + 1 else 60 := by
      have e : m5M m x y gx gy 12 = if m 12 + 1 < 60 then m 12 + 1 else 60 := by
        show lgM _ _ 12 = _
        unfold lgM
        rw [if_pos rfl, m4M_ne (by omega), m3M_out hx2 hy2 (by omega) (by omega)]
      unfold cn
      rw [e]
      obtain ⟨hh1, hh2⟩ := h12
      generalize cn m 12 = n at hh1 hh2
      have e3 : (m 12).toNatClampNeg = n := by rw [hh1, iN_cl (by omega)]
      rw [e3, hh1, iN_s]
      by_cases h8 : n + 1 < 60
      · rw [if_pos (show iN (n + 1) < 60 from iN_ylt (n := 60) h8 (by decide)), if_pos h8, iN_cl (by omega)]
      · rw [if_neg (show ¬ iN (n + 1) < 60 from iN_nlt (n := 60) (by omega) (by omega)), if_neg h8]
        decide
    rw [hcn] at hk
    have hk60 : k < 60 := by
      by_cases h8 : cn m 12 + 1 < 60
      · rw [if_pos h8] at hk; omega
      · rw [if_neg h8] at hk; omega
    rw [iv_ne (by omega), r12 _ (by omega), l9, l8, l7, l6, l5]
    by_cases hk0 : k = 0
    · subst hk0
      have e0 : ((w + 1) % 60 + 60 - 0) % 60 = (w + 1) % 60 := by omega
      rw [e0]
      have eR : lgc (m5M m x y gx gy) 0 c = w8 (m 7) (iN x) (iN y) gx gy (mDx m x y gx gy) (mDy m x y gx gy) (mD m x y gx gy) c := by
        unfold lgc m5M lgM
        rw [if_neg (by omega), if_neg (by omega), if_pos (by omega), show 420 + 8 * 0 + c - 420 = c by omega]
      rw [eR]
      generalize (w + 1) % 60 * 8 = z
      simp only [up1_at]
      have hc8 : c = 0 ∨ c = 1 ∨ c = 2 ∨ c = 3 ∨ c = 4 ∨ c = 5 ∨ c = 6 ∨ c = 7 := by omega
      rcases hc8 with rfl | rfl | rfl | rfl | rfl | rfl | rfl | rfl
      · rw [if_neg (by omega), if_neg (by omega), if_neg (by omega), if_neg (by omega), if_neg (by omega), if_neg (by omega), if_neg (by omega), if_pos rfl, h7]
        rfl
      · rw [if_neg (by omega), if_neg (by omega), if_neg (by omega), if_neg (by omega), if_neg (by omega), if_neg (by omega), if_pos rfl]
        rfl
      · rw [if_neg (by omega), if_neg (by omega), if_neg (by omega), if_neg (by omega), if_neg (by omega), if_pos rfl]
        rfl
      · rw [if_neg (by omega), if_neg (by omega), if_neg (by omega), if_pos rfl]
        rfl
      · rw [if_neg (by omega), if_neg (by omega), if_pos rfl]
        rfl
      · rw [if_neg (by omega), if_pos rfl]
        rfl
      · rw [if_pos rfl]
        rfl
      · rw [if_neg (by omega), if_neg (by omega), if_neg (by omega), if_neg (by omega), if_pos rfl]
        rfl
    · have hk1 : k - 1 < cn m 12 := by
        by_cases h8 : cn m 12 + 1 < 60
        · rw [if_pos h8] at hk; omega
        · rw [if_neg h8] at hk; omega
      have e0 : ((w + 1) % 60 + 60 - k) % 60 = (w + 60 - (k - 1)) % 60 := by omega
      have e1 : (w + 60 - (k - 1)) % 60 ≠ (w + 1) % 60 := by omega
      have e2 : (w + 60 - (k - 1)) % 60 < 60 := Nat.mod_lt _ (by decide)
      have eR : lgc (m5M m x y gx gy) k c = lgc m (k - 1) c := by
        unfold lgc m5M lgM
        rw [if_neg (by omega), if_neg (by omega), if_neg (by omega), m4M_ne (by omega), m3M_out hx2 hy2 (by omega) (by omega), show 420 + 8 * k + c - 8 = 420 + 8 * (k - 1) + c by omega]
      rw [e0, eR, ← hlog (k - 1) c hk1 hc]
      generalize (w + 60 - (k - 1)) % 60 = u at *
      generalize (w + 1) % 60 = v at *
      rw [up1_ne (by omega), up1_ne (by omega), up1_ne (by omega), up1_ne (by omega), up1_ne (by omega), up1_ne (by omega), up1_ne (by omega), up1_ne (by omega)]
end Mt
