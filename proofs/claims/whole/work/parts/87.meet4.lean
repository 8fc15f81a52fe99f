/-! the model's meeting -/
section Mv
variable {r : Rho} {N x y a b p : Nat} {m : Nat → Int32} {lw : (Nat → Int32) → Int32} {gx gy : Int32}
theorem f_R_isBent_eq (hp : p < 10) : f_R_isBent (iN p) r = some (if pC (r.2 1) p 3 ≤ drw (sd1 (r.2 1 16)) then 0 else 1, setM r (up1 (r.2 1) 16 (sd1 (r.2 1 16)))) := by
  unfold f_R_isBent
  rw [rlm16, ob, wrm16, ob, rlm16, ob, of3 hp, ob, setM_m, up1_same]
  have e : pC (up1 (r.2 1) 16 (1103515245 * r.2 1 16 + 12345)) p 3 = pC (r.2 1) p 3 := up1_ne (by omega)
  rw [e]
  show (if pC (r.2 1) p 3 ≤ drw (sd1 (r.2 1 16)) then _ else _) = _
  by_cases h : pC (r.2 1) p 3 ≤ drw (sd1 (r.2 1 16))
  · rw [if_pos h, if_pos h]
    rfl
  · rw [if_neg h, if_neg h]
    rfl
theorem f_R_meeting_163_eq (hN : 500 < N) (hm : r.2 1 = up1 m 16 (mS m x y gx gy)) (h12 : m 12 = iN (cn m 12) ∧ cn m 12 ≤ 60) (hx : x < 10) (hy : y < 10) (hxy : x ≠ y) (cx : pC m x 4 = 0 ∨ pC m x 4 = 1) (cy : pC m y 4 = 0 ∨ pC m y 4 = 1) (a0 a1 : Int32) :
    f_R_meeting_163 N a0 a1 (iN x) (iN y) gx gy (mY m x y gx gy) (mDx m x y gx gy) (mDy m x y gx gy) (mD m x y gx gy) r = some (mD m x y gx gy, setM r (m5M m x y gx gy)) := by
  unfold f_R_meeting_163
  rw [f_R_sees_eq hx hy, ob, f_R_sees_eq hy hx, ob, setM_setM, setM_m, hm]
  generalize hz : seM (seM (up1 m 16 (mS m x y gx gy)) x y (mDy m x y gx gy)) y x (mDx m x y gx gy) = z
  have ex : pC z x 4 = pC m x 4 := by
    rw [← hz, seM_oth hy hx hx (by decide) hxy, seM_rest hx hy (by omega)]
    exact up1_ne (by omega)
  have ey : pC z y 4 = pC m y 4 := by
    rw [← hz, seM_rest hy hx (by omega), seM_oth hx hy hy (by decide) (Ne.symm hxy)]
    exact up1_ne (by omega)
  have zlo : ∀ k, k < 16 → z k = m k := fun k hk => by rw [← hz, seM_out hy hx (by omega), seM_out hx hy (by omega), up1_ne (by omega)]
  rw [of4 hx, ob, of4 hy, ob, setM_m, ex, ey]
  -- the end, whatever the cold does
  have fin : ∀ {s : Rho}, s = setM r (m3M m x y gx gy) → f_R_meeting_229 N a0 a1 (iN x) (iN y) gx gy (mD m x y gx gy) (mY m x y gx gy) (mDx m x y gx gy) (mDy m x y gx gy) s = some (mD m x y gx gy, setM r (m5M m x y gx gy)) := by
    intro s hs
    subst hs
    unfold f_R_meeting_229
    simp only [rlm8, wrm8, rlm9, wrm9, rlm10, setM_m, setM_setM, ob]
    have e8 : m3M m x y gx gy 8 = m 8 := m3M_out hx hy (by omega) (by omega)
    have e9 : up1 (m3M m x y gx gy) 8 (m3M m x y gx gy 8 + 1) 9 = m 9 := (up1_ne (by decide)).trans (m3M_out hx hy (by omega) (by omega))
    have e10 : up1 (up1 (m3M m x y gx gy) 8 (m3M m x y gx gy 8 + 1)) 9 (m 9 + mD m x y gx gy) 10 = m 10 := (up1_ne (by decide)).trans ((up1_ne (by decide)).trans (m3M_out hx hy (by omega) (by omega)))
    rw [e9, e10, e8]
    have last : ∀ c : Int32, c = (if mY m x y gx gy = -1 then 0 else 1) → f_R_meeting_271 N a0 a1 (iN x) (iN y) gx gy (mD m x y gx gy) (mDx m x y gx gy) (mDy m x y gx gy) 10 (m 10) c (setM r (up1 (up1 (m3M m x y gx gy) 8 (m 8 + 1)) 9 (m 9 + mD m x y gx gy))) = some (mD m x y gx gy, setM r (m5M m x y gx gy)) := by
      intro c hc
      unfold f_R_meeting_271
      rw [wrm10, ob, setM_setM, setM_m, rlm11, ob, setM_m, show f_R_countOf (mDx m x y gx gy) = some (cntI (mDx m x y gx gy)) from rfl, show f_R_countOf (mDy m x y gx gy) = some (cntI (mDy m x y gx gy)) from rfl, ob, ob, greater_eq, ob, wrm11, ob, setM_setM, setM_m]
      have e11 : up1 (up1 (up1 (m3M m x y gx gy) 8 (m 8 + 1)) 9 (m 9 + mD m x y gx gy)) 10 (m 10 + c) 11 = m 11 := (up1_ne (by decide)).trans ((up1_ne (by decide)).trans ((up1_ne (by decide)).trans (m3M_out hx hy (by omega) (by omega))))
      rw [e11, hc]
      have e4 : up1 (up1 (up1 (up1 (m3M m x y gx gy) 8 (m 8 + 1)) 9 (m 9 + mD m x y gx gy)) 10 (m 10 + (if mY m x y gx gy = -1 then 0 else 1))) 11 (m 11 + if cntI (mDx m x y gx gy) < cntI (mDy m x y gx gy) then cntI (mDy m x y gx gy) else cntI (mDx m x y gx gy)) = m4M m (m3M m x y gx gy) (mD m x y gx gy) (mY m x y gx gy) (mDx m x y gx gy) (mDy m x y gx gy) := rfl
      rw [e4]
      have f12 : m4M m (m3M m x y gx gy) (mD m x y gx gy) (mY m x y gx gy) (mDx m x y gx gy) (mDy m x y gx gy) 12 = m 12 := by rw [m4M_ne (by omega), m3M_out hx hy (by omega) (by omega)]
      have f7 : m4M m (m3M m x y gx gy) (mD m x y gx gy) (mY m x y gx gy) (mDx m x y gx gy) (mDy m x y gx gy) 7 = m 7 := by rw [m4M_ne (by omega), m3M_out hx hy (by omega) (by omega)]
      rw [f_R_meeting_301_eq (N := N) (m := m4M m (m3M m x y gx gy) (mD m x y gx gy) (mY m x y gx gy) (mDx m x y gx gy) (mDy m x y gx gy)) hN (by rw [cn_cg f12, f12]; exact h12) (setM_m r _), setM_setM, f7]
      rfl
    by_cases h1 : mY m x y gx gy = -1
    · rw [if_pos h1]
      exact last 0 (if_pos h1).symm
    · rw [if_neg h1]
      exact last 1 (if_neg h1).symm
  have e3 : m3M m x y gx gy = clM z x y (mDx m x y gx gy) (mDy m x y gx gy) := by
    unfold m3M
    rw [hz]
  have hcond : (pC z x 4 = 0 ∧ pC z y 4 = 0) ↔ pC m x 4 + pC m y 4 ≤ 0 := by
    rw [ex, ey]
    rcases cx with cx | cx <;> rcases cy with cy | cy <;> rw [cx, cy] <;> decide
  by_cases h0 : pC m x 4 + pC m y 4 ≤ 0
  · rw [if_pos h0]
    refine fin ?_
    rw [e3]
    unfold clM
    rw [if_pos (Or.inl (hcond.mpr h0))]
  · rw [if_neg h0]
    by_cases h1 : mDx m x y gx gy >>> (3 &&& 31) = 0
    · rw [if_pos h1]
      refine fin ?_
      rw [e3]
      unfold clM
      rw [if_pos (Or.inr (Or.inl h1))]
    · rw [if_neg h1]
      by_cases h2 : mDy m x y gx gy >>> (3 &&& 31) = 0
      · rw [if_pos h2]
        refine fin ?_
        rw [e3]
        unfold clM
        rw [if_pos (Or.inr (Or.inr h2))]
      · rw [if_neg h2, has4 hx, ob, has4 hy, ob, setM_setM, setM_setM, setM_m, setM_m]
        refine fin ?_
        rw [e3]
        unfold clM
        rw [if_neg (fun h => h.elim (fun h => h0 (hcond.mp h)) (fun h => h.elim h1 h2))]
theorem f_R_meeting_117_eq (hN : 500 < N) (hm : r.2 1 = up1 m 16 (mS m x y gx gy)) (h12 : m 12 = iN (cn m 12) ∧ cn m 12 ≤ 60) (hx : x < 10) (hy : y < 10) (hxy : x ≠ y) (cx : pC m x 4 = 0 ∨ pC m x 4 = 1) (cy : pC m y 4 = 0 ∨ pC m y 4 = 1) (a0 a1 : Int32) :
    f_R_meeting_117 N a0 a1 (iN x) (iN y) gx gy (costM m gx gy) (mY m x y gx gy) r = some (mD m x y gx gy, setM r (m5M m x y gx gy)) := by
  have k := f_R_meeting_163_eq (N := N) (gx := gx) (gy := gy) hN hm h12 hx hy hxy cx cy a0 a1
  have e : f_R_meeting_117 N a0 a1 (iN x) (iN y) gx gy (costM m gx gy) (mY m x y gx gy) r = f_R_meeting_163 N a0 a1 (iN x) (iN y) gx gy (mY m x y gx gy) (mDx m x y gx gy) (mDy m x y gx gy) (mD m x y gx gy) r := by
    unfold f_R_meeting_117 f_R_meeting_130 f_R_meeting_146 mDx mDy mD
    by_cases h1 : mY m x y gx gy = iN x
    · rw [if_pos h1, if_pos h1]
      by_cases h2 : mY m x y gx gy = iN y
      · rw [if_pos h2, if_pos h2]
        by_cases h3 : mY m x y gx gy = -1
        · rw [if_pos h3, if_pos h3]
        · rw [if_neg h3, if_neg h3]
      · rw [if_neg h2, if_neg h2]
        by_cases h3 : mY m x y gx gy = -1
        · rw [if_pos h3, if_pos h3]
        · rw [if_neg h3, if_neg h3]
    · rw [if_neg h1, if_neg h1]
      by_cases h2 : mY m x y gx gy = iN y
      · rw [if_pos h2, if_pos h2]
        by_cases h3 : mY m x y gx gy = -1
        · rw [if_pos h3, if_pos h3]
        · rw [if_neg h3, if_neg h3]
      · rw [if_neg h2, if_neg h2]
        by_cases h3 : mY m x y gx gy = -1
        · rw [if_pos h3, if_pos h3]
        · rw [if_neg h3, if_neg h3]
  rw [e, k]
theorem f_R_meeting_eq (I : Inv (r.2 1)) (K : RdOK N (r.2 1) lw) (hN : 500 < N) (hxy : x < y) (hy : y < cn (r.2 1) 5) (h : (a = x ∧ b = y) ∨ (a = y ∧ b = x)) :
    ∃ q, f_R_meeting N (iN a) (iN b) r = some ((meM lw (r.2 1) x y).1, q) ∧ Sr (setM r (meM lw (r.2 1) x y).2) q := by
  have h5 := I.b5
  have hx2 : x < 10 := by omega
  have hy2 : y < 10 := by omega
  have cx := (I.p (p := x) (by omega)).2.1
  have cy := (I.p hy).2.1
  obtain ⟨q1, q2⟩ := mmin h hxy (by omega)
  unfold f_R_meeting
  rw [lesser_eq, ob, greater_eq, ob, q1, q2]
  obtain ⟨r1, h1, s1⟩ := f_R_beginning_eq K hx2 hy2 cx cy
  have m1 : r1.2 1 = r.2 1 := s1.1.1.1
  obtain ⟨r2, h2, s2⟩ := f_R_beginning_eq (N := N) (r := r1) (lw := lw) (by rw [m1]; exact K) hy2 hx2 (by rw [m1]; exact cy) (by rw [m1]; exact cx)
  have m2 : r2.2 1 = r.2 1 := s2.1.1.1.trans m1
  rw [m1] at h2
  rw [h1, ob, h2, ob, f_R_costOf_eq, ob, of2 hy2, ob, of2 hx2, ob, m2]
  have sr : Sr r r2 := s1.trans s2
  generalize hm : r.2 1 = m at *
  rw [show meM lw m x y = (mD m x y (bgM lw m x y) (bgM lw m y x), m5M m x y (bgM lw m x y) (bgM lw m y x)) from rfl]
  dsimp only
  generalize bgM lw m x y = gx
  generalize bgM lw m y x = gy
  have fin : ∀ {s : Rho} {yl sd : Int32}, s = setM r2 (up1 m 16 sd) → sd = mS m x y gx gy → yl = mY m x y gx gy → ∃ q, f_R_meeting_117 N (iN a) (iN b) (iN x) (iN y) gx gy (costM m gx gy) yl s = some (mD m x y gx gy, q) ∧ Sr (setM r (m5M m x y gx gy)) q := by
    intro s yl sd hs h1 h2
    subst hs h2
    refine ⟨_, f_R_meeting_117_eq hN (by rw [setM_m, h1]) ⟨I.n12, I.b12⟩ hx2 hy2 (by omega) cx cy _ _, ?_⟩
    rw [setM_setM]
    exact sr.putM _
  have id2 : setM r2 (up1 m 16 (m 16)) = r2 := by rw [up1_id m 16 rfl, ← m2, setM_id]
  -- asked first, second
  have ask : ∀ f, f = fsM m x y → ∃ q, f_R_meeting_63 N (iN a) (iN b) (iN x) (iN y) gx gy (costM m gx gy) (iN f) r2 = some (mD m x y gx gy, q) ∧ Sr (setM r (m5M m x y gx gy)) q := by
    intro f hf
    have hf2 : f = x ∨ f = y := by rw [hf]; exact fsM_or m x y
    unfold f_R_meeting_63 f_R_meeting_89
    by_cases hc : costM m gx gy ≤ 0
    · rw [if_pos hc, if_pos hc]
      have e1 : ylM m x y (costM m gx gy) = (-1, m 16) := by
        unfold ylM
        rw [if_pos hc]
      exact fin (sd := m 16) id2.symm (by unfold mS; rw [e1]) (by unfold mY; rw [e1])
    · rw [if_neg hc, f_R_isBent_eq (by omega), ob, m2]
      have ey : ylM m x y (costM m gx gy) = if pC m f 3 ≤ drw (sd1 (m 16)) then (if pC m (x + y - f) 3 ≤ drw (sd1 (sd1 (m 16))) then (-1, sd1 (sd1 (m 16))) else (iN (x + y - f), sd1 (sd1 (m 16)))) else (iN f, sd1 (m 16)) := by
        unfold ylM
        rw [if_neg hc, hf]
      by_cases h1 : pC m f 3 ≤ drw (sd1 (m 16))
      · rw [if_pos h1] at ey
        rw [if_pos h1, if_pos rfl, if_neg hc, show (iN x + iN y) - iN f = iN (x + y - f) by rw [iN_add, iN_sub (by omega)], f_R_isBent_eq (by omega), ob, setM_m, setM_setM, up1_same]
        have e3 : pC (up1 m 16 (sd1 (m 16))) (x + y - f) 3 = pC m (x + y - f) 3 := up1_ne (by omega)
        have e4 : up1 (up1 m 16 (sd1 (m 16))) 16 (sd1 (sd1 (m 16))) = up1 m 16 (sd1 (sd1 (m 16))) := by
          funext k
          rw [up1_at, up1_at, up1_at]
          by_cases hk : k = 16
          · rw [if_pos hk, if_pos hk]
          · rw [if_neg hk, if_neg hk, if_neg hk]
        rw [e3, e4]
        by_cases h2 : pC m (x + y - f) 3 ≤ drw (sd1 (sd1 (m 16)))
        · rw [if_pos h2] at ey
          rw [if_pos h2, if_pos rfl]
          exact fin rfl (by unfold mS; rw [ey]) (by unfold mY; rw [ey])
        · rw [if_neg h2] at ey
          rw [if_neg h2, if_neg (show ¬ (1 : Int32) = 0 by decide)]
          exact fin rfl (by unfold mS; rw [ey]) (by unfold mY; rw [ey])
      · rw [if_neg h1] at ey
        rw [if_neg h1, if_neg (show ¬ (1 : Int32) = 0 by decide)]
        exact fin rfl (by unfold mS; rw [ey]) (by unfold mY; rw [ey])
  by_cases h : pC m x 2 ≤ pC m y 2
  · rw [if_pos h]
    exact ask x (by unfold fsM; rw [if_pos h])
  · rw [if_neg h]
    exact ask y (by unfold fsM; rw [if_neg h])
end Mv
