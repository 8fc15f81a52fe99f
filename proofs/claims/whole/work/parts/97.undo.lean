section Un
variable {N x o : Nat} {ps ys : Nat → Nat} {M K : Mem} {r q : Rho}
theorem XSk.tT (A : XSk M x ps ys) {t : Nat} (h : isT x t) : Shape M t := by
  rcases h with h | h | h | ⟨i, hi, h⟩ <;> subst h
  · exact A.tn
  · exact A.tk
  · exact A.td
  · exact A.tp hi
/-- a field of the object itself is put: towns and laws are as they were -/
theorem GT.fld {t j : Nat} {v : Int32} {m : Nat → Int32} (h : GT N (x + 628) M t m) (ht : isT x t) : GT N (x + 628) (m_setI M x j v) t m := by
  have hb := isT_b ht
  exact h.fr (Fr.setI (u := x) (n := 1) (Nat.le_refl x) (by omega) (by omega)) (by omega) (by omega)
theorem op_image (G : GS N x o ps ys M r) (hN : 20000 ≤ N) : ∃ K q, f_CT_image N x M = some K ∧ f_R_image N r = some q ∧ GS N x o ps ys K q := by
  obtain ⟨A, ⟨k1, k2, k3, k4⟩, T, g, ⟨p1, p2, p3⟩, f, ⟨i1, i2⟩, ⟨a1, a2, a3⟩⟩ := G
  have tk : isT x (x + 43) := Or.inr (Or.inl rfl)
  have tn : isT x (x + 2) := Or.inl rfl
  obtain ⟨K, h1, C, h2⟩ := f_Town_copyFrom_eq A.tk A.tn (by omega) (show 500 < N by omega) g.cold
  have B1 := C.xs A tk
  have bk := isT_b tk
  have hx : m_iv K x = m_iv M x := C.2.1 x (by omega)
  refine ⟨m_setI K x 5 1, _, ?_, f_R_image_eq hN, ?_⟩
  · unfold f_CT_image
    rw [A.gK, ob, A.gN, ob, A.tk.c0, ob, h1, ob, B1.z 5 (Or.inr rfl), ob]
  · have e1 : (r_set (cpR 1 0 2 0 1300 (r_set r 0 0)) 3 1).2 1 = r.2 1 := (cpR_ne (by decide) : (cpR 1 0 2 0 1300 (r_set r 0 0)).2 1 = (r_set r 0 0).2 1)
    have e2 : ∀ k, k < 1300 → (r_set (cpR 1 0 2 0 1300 (r_set r 0 0)) 3 1).2 2 k = r.2 1 k := fun k hk => by
      show (cpR 1 0 2 0 1300 (r_set r 0 0)).2 2 k = _
      rw [cpR_own, if_pos (by omega), Nat.zero_add, Nat.sub_zero]
      rfl
    have e5 : (r_set (cpR 1 0 2 0 1300 (r_set r 0 0)) 3 1).2 5 = r.2 5 := (cpR_ne (by decide) : (cpR 1 0 2 0 1300 (r_set r 0 0)).2 5 = (r_set r 0 0).2 5)
    have e7 : (r_set (cpR 1 0 2 0 1300 (r_set r 0 0)) 3 1).2 7 = r.2 7 := (cpR_ne (by decide) : (cpR 1 0 2 0 1300 (r_set r 0 0)).2 7 = (r_set r 0 0).2 7)
    have f3 : (r_set (cpR 1 0 2 0 1300 (r_set r 0 0)) 3 1).1 3 = 1 := rfl
    have f6 : (r_set (cpR 1 0 2 0 1300 (r_set r 0 0)) 3 1).1 6 = r.1 6 := rfl
    have f8 : (r_set (cpR 1 0 2 0 1300 (r_set r 0 0)) 3 1).1 8 = r.1 8 := rfl
    have f12 : (r_set (cpR 1 0 2 0 1300 (r_set r 0 0)) 3 1).1 12 = r.1 12 := rfl
    have fz : Bz (r_set (cpR 1 0 2 0 1300 (r_set r 0 0)) 3 1) = Bz r := rfl
    generalize r_set (cpR 1 0 2 0 1300 (r_set r 0 0)) 3 1 = q at *
    have ix : ∀ j, j ≠ 5 → m_iv (m_setI K x 5 1) x j = m_iv M x j := fun j hj => by rw [iv_same, up1_ne hj, hx]
    refine ⟨B1.kr rfl rfl rfl, ⟨by show m_kd K o = _; rw [C.1.2.1]; exact k1, k2, by show o < m_sz K; rw [C.1.1]; exact k3, fun b hb => by show (m_kd K b).1 = 0; rw [C.1.2.1]; exact k4 b (by rw [← C.1.1]; exact hb)⟩, fun g hg => ?_, ?_, ?_, ?_, ⟨?_, ?_⟩, ⟨?_, by rw [f6]; exact a2, fun k hk => ?_⟩⟩
    · rw [iv_ne (by omega), C.2.1 _ (by omega)]; exact T g hg
    · rw [e1]
      exact (C.gt g bk.2.1 (by omega) (by omega)).fld tn
    · refine ⟨?_, by rw [f8]; exact p2, fun k hk => ?_⟩
      · rw [ix 1 (by decide), f8]; exact p1
      · rw [iv_ne (by omega), C.2.1 _ (by omega), e7]; exact p3 k hk
    · exact ⟨by rw [ix 2 (by decide), f12]; exact f.1, by rw [fz]; exact f.2⟩
    · rw [iv_same, up1_same, f3]
    · exact Or.inr ⟨f3, ((C.gtS h2 g bk.2.1).fld tk).cgm e2⟩
    · rw [ix 7 (by decide), f6]; exact a1
    · rw [f6] at hk
      have hp := A.pl (i := k) (by have := (nb_c a2 (by decide)).2; omega)
      have tp : isT x (x + 136 + 41 * ps k) := Or.inr (Or.inr (Or.inr ⟨ps k, hp, rfl⟩))
      have ea : acM q k = acM r k := by
        unfold acM
        rw [e1, e5]
      rw [ea]
      exact (C.gt (a3 k hk) bk.2.1 (by omega) (by omega)).fld tp
theorem op_back (G : GS N x o ps ys M r) (hN : 20000 ≤ N) : Both2 N x o (f_CT_back N x M) (f_R_back N r) := by
  have G0 := G
  obtain ⟨A, ⟨k1, k2, k3, k4⟩, T, g, ⟨p1, p2, p3⟩, f, ⟨i1, i2⟩, ⟨a1, a2, a3⟩⟩ := G
  have tk : isT x (x + 43) := Or.inr (Or.inl rfl)
  have tn : isT x (x + 2) := Or.inl rfl
  rcases i2 with i2 | ⟨i2, i3⟩
  · refine ⟨ps, ys, 0, M, r_set r 0 0, ?_, ?_, G0.th 0⟩
    · unfold f_CT_back
      rw [A.i, ob, i1, i2, if_pos rfl]
    · unfold f_R_back
      rw [set_f (by decide), i2, if_pos rfl]
  · obtain ⟨K, h1, C, h2⟩ := f_Town_copyFrom_eq A.tn A.tk (by omega) (show 500 < N by omega) i3.cold
    have B1 := C.xs A tn
    have bn := isT_b tn
    have hx : m_iv K x = m_iv M x := C.2.1 x (by omega)
    refine ⟨ps, ys, 1, m_setI K x 7 0, _, ?_, f_R_back_1 hN (by rw [i2]; decide), ?_⟩
    · unfold f_CT_back
      rw [A.i, ob, i1, i2, if_neg i1n, A.gN, ob, A.gK, ob, A.tn.c0, ob, h1, ob, B1.p, ob]
    · have e1 : ∀ k, k < 1300 → (r_set (cpR 2 0 1 0 1300 (r_set r 0 0)) 6 0).2 1 k = r.2 2 k := fun k hk => by
        show (cpR 2 0 1 0 1300 (r_set r 0 0)).2 1 k = _
        rw [cpR_own, if_pos (by omega), Nat.zero_add, Nat.sub_zero]
        rfl
      have e2 : (r_set (cpR 2 0 1 0 1300 (r_set r 0 0)) 6 0).2 2 = r.2 2 := (cpR_ne (by decide) : (cpR 2 0 1 0 1300 (r_set r 0 0)).2 2 = (r_set r 0 0).2 2)
      have e7 : (r_set (cpR 2 0 1 0 1300 (r_set r 0 0)) 6 0).2 7 = r.2 7 := (cpR_ne (by decide) : (cpR 2 0 1 0 1300 (r_set r 0 0)).2 7 = (r_set r 0 0).2 7)
      have f3 : (r_set (cpR 2 0 1 0 1300 (r_set r 0 0)) 6 0).1 3 = r.1 3 := rfl
      have f6 : (r_set (cpR 2 0 1 0 1300 (r_set r 0 0)) 6 0).1 6 = 0 := rfl
      have f8 : (r_set (cpR 2 0 1 0 1300 (r_set r 0 0)) 6 0).1 8 = r.1 8 := rfl
      have f12 : (r_set (cpR 2 0 1 0 1300 (r_set r 0 0)) 6 0).1 12 = r.1 12 := rfl
      have fz : Bz (r_set (cpR 2 0 1 0 1300 (r_set r 0 0)) 6 0) = Bz r := rfl
      generalize r_set (cpR 2 0 1 0 1300 (r_set r 0 0)) 6 0 = q at *
      have ix : ∀ j, j ≠ 7 → m_iv (m_setI K x 7 0) x j = m_iv M x j := fun j hj => by rw [iv_same, up1_ne hj, hx]
      refine ⟨B1.kr rfl rfl rfl, ⟨by show m_kd K o = _; rw [C.1.2.1]; exact k1, k2, by show o < m_sz K; rw [C.1.1]; exact k3, fun b hb => by show (m_kd K b).1 = 0; rw [C.1.2.1]; exact k4 b (by rw [← C.1.1]; exact hb)⟩, fun g hg => ?_, ?_, ?_, ?_, ⟨?_, ?_⟩, ⟨?_, ?_, fun k hk => ?_⟩⟩
      · rw [iv_ne (by omega), C.2.1 _ (by omega)]; exact T g hg
      · exact ((C.gtS h2 i3 bn.2.1).fld tn).cgm e1
      · refine ⟨?_, by rw [f8]; exact p2, fun k hk => ?_⟩
        · rw [ix 1 (by decide), f8]; exact p1
        · rw [iv_ne (by omega), C.2.1 _ (by omega), e7]; exact p3 k hk
      · exact ⟨by rw [ix 2 (by decide), f12]; exact f.1, by rw [fz]; exact f.2⟩
      · rw [ix 5 (by decide), f3]; exact i1
      · rw [f3, e2]
        exact Or.inr ⟨i2, (C.gt i3 bn.2.1 (by omega) (by omega)).fld tk⟩
      · rw [iv_same, up1_same, f6]
      · rw [f6]; exact ⟨0, by decide, rfl⟩
      · rw [f6] at hk
        exact absurd hk (Nat.not_lt_zero k)
theorem op_undo (G : GS N x o ps ys M r) (hN : 20000 ≤ N) : Both2 N x o (f_CT_undo N x M) (f_R_undo N r) := by
  have G0 := G
  obtain ⟨A, ⟨k1, k2, k3, k4⟩, T, g, ⟨p1, p2, p3⟩, f, ⟨i1, i2⟩, ⟨a1, a2, a3⟩⟩ := G
  have tn : isT x (x + 2) := Or.inl rfl
  obtain ⟨n6, n6b⟩ := nb_c a2 (by decide)
  generalize hn : (r.1 6).toNatClampNeg = n at *
  by_cases hz : n = 0
  · subst hz
    refine ⟨ps, ys, 0, M, r_set r 0 0, ?_, ?_, G0.th 0⟩
    · unfold f_CT_undo
      rw [A.i, ob, a1, n6, if_neg (by decide)]
    · unfold f_R_undo
      rw [set_f (by decide), n6, if_pos (by decide)]
  · obtain ⟨n, rfl⟩ : ∃ k, n = k + 1 := ⟨n - 1, by omega⟩
    have hp := A.pl (i := n) (by omega)
    have tp : isT x (x + 136 + 41 * ps n) := Or.inr (Or.inr (Or.inr ⟨ps n, hp, rfl⟩))
    have bp := isT_b tp
    have bn := isT_b tn
    have gp := (a3 n (by omega)).fld (x := x) (j := 7) (v := iN n) tp
    have A1 : XSk (m_setI M x 7 (iN n)) x ps ys := A.kr rfl rfl rfl
    obtain ⟨K, h1, C, h2⟩ := f_Town_copyFrom_eq (M := m_setI M x 7 (iN n)) A1.tn (A1.tp hp) (by omega) (show 500 < N by omega) gp.cold
    have B1 := C.xs A1 tn
    have hx : m_iv K x = m_iv (m_setI M x 7 (iN n)) x := C.2.1 x (by omega)
    refine ⟨ps, ys, 1, K, _, ?_, f_R_undo_1 (n := n) hN (by omega) n6, ?_⟩
    · unfold f_CT_undo
      rw [A.i, ob, a1, n6, if_pos (show (0 : Int32) < iN (n + 1) from iN_ylt (k := 0) (by omega) (by omega)), ob, show iN (n + 1) - 1 = iN n from iN_sub (a := n + 1) (b := 1) (by omega), A.p, ob, A1.gN, ob, A1.gP, ob, A1.i, ob, iv_same, up1_same, A1.pa (by omega), ob, A1.tn.c0, ob, h1, ob]
    · have e1 : (cpR 5 (900 * n) 1 0 900 (r_set (r_set r 0 0) 6 (iN n))).2 1 = acM r n := by
        funext k
        rw [cpR_own]
        unfold acM
        by_cases hk : k < 900
        · rw [if_pos (by omega), if_pos hk, Nat.sub_zero]
          rfl
        · rw [if_neg (by omega), if_neg hk]
          rfl
      have e2 : (cpR 5 (900 * n) 1 0 900 (r_set (r_set r 0 0) 6 (iN n))).2 2 = r.2 2 := (cpR_ne (by decide) : (cpR 5 (900 * n) 1 0 900 (r_set (r_set r 0 0) 6 (iN n))).2 2 = (r_set (r_set r 0 0) 6 (iN n)).2 2)
      have e5 : (cpR 5 (900 * n) 1 0 900 (r_set (r_set r 0 0) 6 (iN n))).2 5 = r.2 5 := (cpR_ne (by decide) : (cpR 5 (900 * n) 1 0 900 (r_set (r_set r 0 0) 6 (iN n))).2 5 = (r_set (r_set r 0 0) 6 (iN n)).2 5)
      have e7 : (cpR 5 (900 * n) 1 0 900 (r_set (r_set r 0 0) 6 (iN n))).2 7 = r.2 7 := (cpR_ne (by decide) : (cpR 5 (900 * n) 1 0 900 (r_set (r_set r 0 0) 6 (iN n))).2 7 = (r_set (r_set r 0 0) 6 (iN n)).2 7)
      have f3 : (cpR 5 (900 * n) 1 0 900 (r_set (r_set r 0 0) 6 (iN n))).1 3 = r.1 3 := rfl
      have f6 : (cpR 5 (900 * n) 1 0 900 (r_set (r_set r 0 0) 6 (iN n))).1 6 = iN n := rfl
      have f8 : (cpR 5 (900 * n) 1 0 900 (r_set (r_set r 0 0) 6 (iN n))).1 8 = r.1 8 := rfl
      have f12 : (cpR 5 (900 * n) 1 0 900 (r_set (r_set r 0 0) 6 (iN n))).1 12 = r.1 12 := rfl
      have fz : Bz (cpR 5 (900 * n) 1 0 900 (r_set (r_set r 0 0) 6 (iN n))) = Bz r := rfl
      generalize cpR 5 (900 * n) 1 0 900 (r_set (r_set r 0 0) 6 (iN n)) = q at *
      have ix : ∀ j, j ≠ 7 → m_iv K x j = m_iv M x j := fun j hj => by rw [hx, iv_same, up1_ne hj]
      refine ⟨B1, ⟨by rw [C.1.2.1]; exact k1, k2, by rw [C.1.1]; exact k3, fun b hb => by rw [C.1.2.1]; exact k4 b (by rw [C.1.1] at hb; exact hb)⟩, fun g hg => ?_, ?_, ?_, ?_, ⟨?_, ?_⟩, ⟨?_, ?_, fun k hk => ?_⟩⟩
      · rw [C.2.1 _ (by omega), iv_ne (by omega)]; exact T g hg
      · rw [e1]
        exact C.gtS h2 gp bn.2.1
      · refine ⟨?_, by rw [f8]; exact p2, fun k hk => ?_⟩
        · rw [ix 1 (by decide), f8]; exact p1
        · rw [C.2.1 _ (by omega), iv_ne (by omega), e7]; exact p3 k hk
      · exact ⟨by rw [ix 2 (by decide), f12]; exact f.1, by rw [fz]; exact f.2⟩
      · rw [ix 5 (by decide), f3]; exact i1
      · rw [f3, e2]
        exact i2.imp id fun w => ⟨w.1, C.gt (w.2.fld (Or.inr (Or.inl rfl))) bn.2.1 (by omega) (by omega)⟩
      · rw [hx, iv_same, up1_same, f6]
      · rw [f6]; exact ⟨n, by omega, rfl⟩
      · rw [f6, iN_cl (by omega)] at hk
        have hp2 := A.pl (i := k) (by omega)
        have ea : acM q k = acM r k := by
          funext j
          unfold acM
          rw [e1, e5]
          by_cases hj : j < 900
          · rw [if_pos hj, if_pos hj]
          · rw [if_neg hj, if_neg hj]
            unfold acM
            rw [if_neg hj]
        rw [ea]
        exact C.gt ((a3 k (by omega)).fld (Or.inr (Or.inr (Or.inr ⟨ps k, hp2, rfl⟩)))) bn.2.1 (by omega) (by omega)
end Un
