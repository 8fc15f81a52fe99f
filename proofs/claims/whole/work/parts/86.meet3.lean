theorem setI_sz (M : Mem) (a j : Nat) (v : Int32) : m_sz (m_setI M a j v) = m_sz M ∧ m_kd (m_setI M a j v) = m_kd M ∧ m_rv (m_setI M a j v) = m_rv M ∧ m_lv (m_setI M a j v) = m_lv M := ⟨rfl, rfl, rfl, rfl⟩
theorem Fr.of {u n B : Nat} {M N : Mem} (h1 : m_sz N = m_sz M ∧ m_kd N = m_kd M ∧ m_rv N = m_rv M ∧ m_lv N = m_lv M) (h2 : ∀ b, b < u ∨ u + n ≤ b → m_iv N b = m_iv M b) (h3 : u + n ≤ B) : Fr u n B M N :=
  ⟨h1, fun b _ hn => h2 b (by omega), fun d lw hd h => ⟨h.cong (fun b _ _ => by rw [h1.2.1]) (by rw [h1.2.2.1]) fun b h4 h5 _ => h2 b (by omega), by rw [h2 d (by omega)]⟩⟩
section Mu
variable {M : Mem} {r : Rho} {t B N x y a b : Nat} {m : Nat → Int32} {lw : (Nat → Int32) → Int32} {gx gy ln : Int32}
theorem ylM_or (m : Nat → Int32) (x y : Nat) (c : Int32) : (ylM m x y c).1 = -1 ∨ (ylM m x y c).1 = iN x ∨ (ylM m x y c).1 = iN y := by
  unfold ylM
  by_cases h : c ≤ 0
  · rw [if_pos h]; exact Or.inl rfl
  rw [if_neg h]
  have hf := fsM_or m x y
  by_cases h1 : pC m (fsM m x y) 3 ≤ drw (sd1 (m 16))
  · rw [if_pos h1]
    by_cases h2 : pC m (x + y - fsM m x y) 3 ≤ drw (sd1 (sd1 (m 16)))
    · rw [if_pos h2]; exact Or.inl rfl
    · rw [if_neg h2]
      rcases hf with e | e
      · right; right
        show iN (x + y - fsM m x y) = iN y
        rw [e, show x + y - x = y by omega]
      · right; left
        show iN (x + y - fsM m x y) = iN x
        rw [e, show x + y - y = x by omega]
  · rw [if_neg h1]
    rcases hf with e | e
    · right; left
      show iN (fsM m x y) = iN x
      rw [e]
    · right; right
      show iN (fsM m x y) = iN y
      rw [e]
theorem f_Town_meetOnce_63_eq (S : Shape M t) (I : Inv m) (R : TRel M t m) (hx : x < cn m 5) (hy : y < cn m 5) (a0 a1 : Int32) (ht : t + 41 ≤ B) :
    ∃ K, f_Town_meetOnce_63 N t a0 a1 (iN x) (iN y) gx gy (costM m gx gy) (mY m x y gx gy) (m_setI M t 8 (mS m x y gx gy)) = some (mD m x y gx gy, K) ∧ Fr t 41 B M K ∧ TRel K t (m5M m x y gx gy) := by
  have hx2 : x < 10 := by have := I.b5; omega
  have hy2 : y < 10 := by have := I.b5; omega
  generalize hM3 : m_setI M t 8 (mS m x y gx gy) = M3
  have S3 : Shape M3 t := hM3 ▸ S.setI
  have k3 : m_sz M3 = m_sz M ∧ m_kd M3 = m_kd M ∧ m_rv M3 = m_rv M ∧ m_lv M3 = m_lv M := by rw [← hM3]; exact setI_sz _ _ _ _
  have t3 : m_iv M3 t = up1 (m_iv M t) 8 (mS m x y gx gy) := by rw [← hM3, iv_same]
  have o3 : ∀ d, d ≠ t → m_iv M3 d = m_iv M d := fun d hd => by rw [← hM3, iv_ne hd]
  -- who did what
  have e1 : f_Town_meetOnce_63 N t a0 a1 (iN x) (iN y) gx gy (costM m gx gy) (mY m x y gx gy) M3 = f_Town_meetOnce_94 N t a0 a1 (iN x) (iN y) gx gy (costM m gx gy) (mY m x y gx gy) (mDx m x y gx gy) (mDy m x y gx gy) M3 := by
    unfold f_Town_meetOnce_63 f_Town_meetOnce_78 mDx mDy
    by_cases h1 : mY m x y gx gy = iN x
    · rw [if_pos h1, if_pos h1]
      by_cases h2 : mY m x y gx gy = iN y
      · rw [if_pos h2, if_pos h2]
      · rw [if_neg h2, if_neg h2]
    · rw [if_neg h1, if_neg h1]
      by_cases h2 : mY m x y gx gy = iN y
      · rw [if_pos h2, if_pos h2]
      · rw [if_neg h2, if_neg h2]
  generalize hM4 : m_setI M3 t 12 (m 10 + (if mY m x y gx gy = -1 then 0 else 1)) = M4
  have S4 : Shape M4 t := hM4 ▸ S3.setI
  have k4 : m_sz M4 = m_sz M ∧ m_kd M4 = m_kd M ∧ m_rv M4 = m_rv M ∧ m_lv M4 = m_lv M := by rw [← hM4]; exact kk_trans k3 (setI_sz _ _ _ _)
  have t4 : m_iv M4 t = up1 (up1 (m_iv M t) 8 (mS m x y gx gy)) 12 (m 10 + (if mY m x y gx gy = -1 then 0 else 1)) := by rw [← hM4, iv_same, t3]
  have o4 : ∀ d, d ≠ t → m_iv M4 d = m_iv M d := fun d hd => by rw [← hM4, iv_ne hd, o3 d hd]
  have e2 : f_Town_meetOnce_94 N t a0 a1 (iN x) (iN y) gx gy (costM m gx gy) (mY m x y gx gy) (mDx m x y gx gy) (mDy m x y gx gy) M3 = f_Town_meetOnce_118 N t a0 a1 (iN x) (iN y) gx gy (mD m x y gx gy) (mDx m x y gx gy) (mDy m x y gx gy) M4 := by
    unfold f_Town_meetOnce_94 mD
    have e10 : m_iv M3 t 12 = m 10 := by rw [t3, up1_ne (by decide), R.v10]
    by_cases h1 : mY m x y gx gy = -1
    · rw [if_pos h1, if_pos h1]
      rw [if_pos h1, Int32.add_zero, setI_id e10] at hM4
      rw [hM4]
    · rw [if_neg h1, if_neg h1, S3.i0, ob, S3.p0, ob, e10]
      rw [if_neg h1] at hM4
      rw [hM4]
  have P4 : ∀ q, q < 10 → PRel M4 t (up1 m 16 (mS m x y gx gy)) q := fun q hq => (R.P hq).cg hq I.b6 (fun b hb1 hb2 => o4 b (by omega)) (fun k hk => up1_ne (by omega))
  obtain ⟨w, hw, g1, g2⟩ := R.G.2
  have h7 : m_iv M4 t 9 = m 7 := by rw [t4, up1_ne (by decide), up1_ne (by decide), R.v7]
  obtain ⟨K, q1, q2, q3, q4, q5, q6, q7⟩ := f_Town_meetOnce_118_eq (N := N) S4 ⟨w, hw, by rw [o4 _ (by omega)]; exact g1, by rw [o4 _ (by omega)]; exact g2⟩ (by rw [o4 _ (by omega)]; exact R.G.1) ⟨I.n12, I.b12⟩ h7 P4 I.b5 I.b6 hx hy a0 a1
  refine ⟨K, by rw [e1, e2, q1], Fr.of (kk_trans k4 q2) (fun d hd => by rw [q3 d hd, o4 d (by omega)]) ht, ⟨?_, ?_, ?_, ?_⟩, ?_, fun q hq => ?_, ?_, q7⟩
  · rw [q4 _ (by omega), o4 _ (by omega), m5M_out hx2 hy2 (by omega) (by omega) (by omega)]; exact R.v3
  · rw [q4 _ (by omega), o4 _ (by omega), m5M_out hx2 hy2 (by omega) (by omega) (by omega)]; exact R.v4
  · rw [q4 _ (by omega), o4 _ (by omega), m5M_out hx2 hy2 (by omega) (by omega) (by omega), m5M_out hx2 hy2 (by omega) (by omega) (by omega), m5M_out hx2 hy2 (by omega) (by omega) (by omega)]; exact R.1.2.2.1
  · intro k hk
    have c4 : cn (m5M m x y gx gy) 4 = cn m 4 := cn_cg (m5M_out hx2 hy2 (by omega) (by omega) (by omega))
    rw [c4] at hk
    have hb := I.b4
    rw [q4 _ (by omega), q4 _ (by omega), q4 _ (by omega), o4 _ (by omega), o4 _ (by omega), o4 _ (by omega), m5M_out hx2 hy2 (by omega) (by omega) (by omega), m5M_out hx2 hy2 (by omega) (by omega) (by omega), m5M_out hx2 hy2 (by omega) (by omega) (by omega)]
    exact R.hab hk
  · have z8 : m5M m x y gx gy 8 = m 8 + 1 := by
      unfold m5M lgM m4M
      rw [if_neg (by decide), if_pos (by decide), up1_ne (by decide), up1_ne (by decide), up1_ne (by decide), up1_same]
    have z9 : m5M m x y gx gy 9 = m 9 + mD m x y gx gy := by
      unfold m5M lgM m4M
      rw [if_neg (by decide), if_pos (by decide), up1_ne (by decide), up1_ne (by decide), up1_same]
    have z10 : m5M m x y gx gy 10 = m 10 + (if mY m x y gx gy = -1 then 0 else 1) := by
      unfold m5M lgM m4M
      rw [if_neg (by decide), if_pos (by decide), up1_ne (by decide), up1_same]
    have z11 : m5M m x y gx gy 11 = m 11 + mxI (cntI (mDx m x y gx gy)) (cntI (mDy m x y gx gy)) := by
      unfold m5M lgM m4M
      rw [if_neg (by decide), if_pos (by decide), up1_same]
    refine ⟨?_, ?_, ?_, ?_, ?_, ?_, ?_, ?_, ?_⟩
    · rw [q5, up1_ne (by decide), up1_ne (by decide), up1_ne (by decide), t4, up1_ne (by decide), up1_ne (by decide), m5M_out hx2 hy2 (by omega) (by omega) (by omega), R.v5]
    · rw [q5, up1_ne (by decide), up1_ne (by decide), up1_ne (by decide), t4, up1_ne (by decide), up1_ne (by decide), m5M_out hx2 hy2 (by omega) (by omega) (by omega), R.v6]
    · rw [q5, up1_ne (by decide), up1_ne (by decide), up1_ne (by decide), t4, up1_ne (by decide), up1_ne (by decide), m5M_out hx2 hy2 (by omega) (by omega) (by omega), R.v0]
    · rw [q5, up1_ne (by decide), up1_ne (by decide), up1_ne (by decide), t4, up1_ne (by decide), up1_same, m5M_lo (by omega) (by omega), m3M_16 hx2 hy2]
    · rw [q5, up1_ne (by decide), up1_ne (by decide), up1_ne (by decide), t4, up1_ne (by decide), up1_ne (by decide), m5M_out hx2 hy2 (by omega) (by omega) (by omega), R.v7]
    · rw [q5, up1_ne (by decide), up1_ne (by decide), up1_same, t4, up1_ne (by decide), up1_ne (by decide), R.v8, z8]
    · rw [q5, up1_ne (by decide), up1_same, t4, up1_ne (by decide), up1_ne (by decide), R.v9, z9]
    · rw [q5, up1_ne (by decide), up1_ne (by decide), up1_ne (by decide), t4, up1_same, z10]
    · rw [q5, up1_same, t4, up1_ne (by decide), up1_ne (by decide), R.v11, z11]
  · have c6 : cn (m3M m x y gx gy) 6 ≤ 24 := by
      rw [cn_cg (m3M_out hx2 hy2 (by omega) (by omega))]
      exact I.b6
    exact (q6 q hq).cg hq c6 (fun _ _ _ => rfl) (fun k hk => m5M_lo (by omega) (by omega))
  · intro k hk
    have c6 : cn (m5M m x y gx gy) 6 = cn m 6 := cn_cg (m5M_out hx2 hy2 (by omega) (by omega) (by omega))
    rw [c6] at hk
    have hb := I.b6
    unfold tA tB
    rw [q4 _ (by omega), q4 _ (by omega), o4 _ (by omega), o4 _ (by omega), m5M_out hx2 hy2 (by omega) (by omega) (by omega), m5M_out hx2 hy2 (by omega) (by omega) (by omega)]
    exact R.E k hk
theorem mmin {a b x y : Nat} (h : (a = x ∧ b = y) ∨ (a = y ∧ b = x)) (hxy : x < y) (hy : y < 100) : (if iN b < iN a then iN b else iN a) = iN x ∧ (if iN a < iN b then iN b else iN a) = iN y := by
  rcases h with ⟨rfl, rfl⟩ | ⟨rfl, rfl⟩
  · rw [if_neg (iN_nlt (by omega) (by omega)), if_pos (iN_ylt hxy (by omega))]
    exact ⟨rfl, rfl⟩
  · rw [if_pos (iN_ylt hxy (by omega)), if_neg (iN_nlt (by omega) (by omega))]
    exact ⟨rfl, rfl⟩
theorem f_Town_meetOnce_eq (S : Shape M t) (I : Inv m) (R : TRel M t m) (W : WRel M t B lw ln) (ht : t + 41 ≤ B) (hN : 500 < N) (hxy : x < y) (hy : y < cn m 5) (h : (a = x ∧ b = y) ∨ (a = y ∧ b = x)) :
    ∃ K, f_Town_meetOnce N t (iN a) (iN b) M = some ((meM lw m x y).1, K) ∧ Fr t 41 B M K ∧ TRel K t (meM lw m x y).2 := by
  have h5 := I.b5
  have hx : x < cn m 5 := by omega
  obtain ⟨q1, q2⟩ := mmin h hxy (by omega)
  unfold f_Town_meetOnce
  rw [min_eq, ob, max_eq, ob, q1, q2, S.c0, ob]
  obtain ⟨M1, h1, F1⟩ := f_Town_greetingFor_eq S I R W ht hN hx hy
  have S1 := F1.shape S
  have R1 := F1.tRel0 R ht
  have W1 := F1.wRel W
  obtain ⟨M2, h2, F2⟩ := f_Town_greetingFor_eq S1 I R1 W1 ht hN hy hx
  have S2 := F2.shape S1
  have R2 := F2.tRel0 R1 ht
  rw [h1, ob, S1.c0, ob, h2, ob, S2.g_lands, ob, S2.g_manners, ob, S2.c2, ob, R2.cost S2, ob]
  obtain ⟨K, h3, F3, R3⟩ := f_Town_meetOnce_63_eq (N := N) (B := B) (gx := bgM lw m x y) (gy := bgM lw m y x) S2 I R2 hx hy (iN a) (iN b) ht
  have F : Fr t 41 B M K := (F1.none.trans F2.none).trans F3
  refine ⟨K, ?_, F, R3⟩
  by_cases hc : costM m (bgM lw m x y) (bgM lw m y x) ≤ 0
  · have e1 : mY m x y (bgM lw m x y) (bgM lw m y x) = -1 := by
      unfold mY ylM
      rw [if_pos hc]
    have e2 : mS m x y (bgM lw m x y) (bgM lw m y x) = m 16 := by
      unfold mS ylM
      rw [if_pos hc]
    rw [e1, e2, setI_id R2.v16] at h3
    rw [if_pos hc]
    exact h3
  · rw [if_neg hc, S2.c0, ob, f_Town_whoYields_eq S2 I R2 hx hy hc, ob]
    exact h3
end Mu
