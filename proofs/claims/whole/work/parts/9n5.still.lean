section Ys
variable {N x o t B n p k : Nat} {ps ys zs : Nat → Nat} {M K L : Mem} {r q : Rho} {fr ow pr : Nat → Int32} {a b g : Int32} {m : Nat → Int32}
theorem nx_00 (I : Inv m) : ∀ k, k < cn m 5 → nx (owS m 0 0 k) 32 := owS_nx I ⟨0, by decide, rfl⟩
theorem op_still (G : GS N x o ps ys M r) (hN : 20000 ≤ N) : Both2 N x o (f_CT_still N x M) (f_R_still N r) := by
  have h5 := G.I.b5
  obtain ⟨K, c1, G1, Y1, L1⟩ := startFrom_cl (N := N) G G.S G.I G.R (by omega) (by omega)
  obtain ⟨q, m1, s1, Z1⟩ := starts_md (r := r_set r 0 0) (N := N) G.I (by omega) 0 0
  have key : ∀ (j k fuel f2 : Nat) (zs : Nat → Nat) (K : Mem) (q : Rho) (pr : Nat → Int32), k + j = 61 → j < fuel → j < f2 → GS N x o ps zs K r → YC K x zs (cn (r.2 1) 5) (frM (r.2 1)) (itM (frM (r.2 1)) (cn (r.2 1) 5) (owS (r.2 1) 0 0) k) → YL K x zs (cn (r.2 1) 5) pr → Yq (r_set r 0 0) q → YR q (cn (r.2 1) 5) (frM (r.2 1)) (itM (frM (r.2 1)) (cn (r.2 1) 5) (owS (r.2 1) 0 0) k) →
      ∃ zs v K2 q2, f_CT_still_13 N x fuel (iN k) K = some (v, K2) ∧ f_R_still_13 N f2 (iN k) q = some (v, q2) ∧ GS N x o ps zs K2 r ∧ Yq (r_set r 0 0) q2 := by
    intro j
    induction j with
    | zero =>
      intro k fuel f2 zs K q pr hk hf hf2 G Y Yl s Z
      obtain ⟨fu, rfl⟩ : ∃ fu, fuel = fu + 1 := ⟨fuel - 1, by omega⟩
      obtain ⟨fv, rfl⟩ : ∃ fv, f2 = fv + 1 := ⟨f2 - 1, by omega⟩
      obtain rfl : k = 61 := by omega
      exact ⟨zs, -1, K, q, by rw [f_CT_still_13, if_pos (show (60 : Int32) < iN 61 by decide)], by rw [f_R_still_13, if_pos (show (60 : Int32) < iN 61 by decide)], G, s⟩
    | succ j ih =>
      intro k fuel f2 zs K q pr hk hf hf2 G Y Yl s Z
      obtain ⟨fu, rfl⟩ : ∃ fu, fuel = fu + 1 := ⟨fuel - 1, by omega⟩
      obtain ⟨fv, rfl⟩ : ∃ fv, f2 = fv + 1 := ⟨f2 - 1, by omega⟩
      have h60 : ¬ (60 : Int32) < iN k := iN_nlt (k := 60) (by omega) (by decide)
      have em : q.2 1 = r.2 1 := s.em
      obtain ⟨K2, z2, c2, G2, Y2, L2, -⟩ := passYear_cl (N := N) G Y Yl (by omega) h5 (itM_nx (nx_00 G.I) k) (fun p hp => frM_self _ (by omega))
      obtain ⟨q2, m2, s2, Z2⟩ := year_md (r := q) (N := N) (fr := frM (r.2 1)) (ow := itM (frM (r.2 1)) (cn (r.2 1) 5) (owS (r.2 1) 0 0) k) (by rw [em]; exact G.I) (by omega) (by rw [em]; exact Z) (by rw [em]; exact itM_nx (nx_00 G.I) k)
      rw [em] at m2 Z2
      rw [f_CT_still_13, if_neg h60, G.A.gY, ob, G.A.yc, ob, c2, ob, f_R_still_13, if_neg h60, m2, ob]
      dsimp only
      cases chB (frM (r.2 1)) (cn (r.2 1) 5) (itM (frM (r.2 1)) (cn (r.2 1) 5) (owS (r.2 1) 0 0) k) with
      | false => exact ⟨z2, iN k, K2, q2, if_pos rfl, if_pos rfl, G2, s.trans s2⟩
      | true =>
        rw [if_neg (show ¬ b01 true = 0 by decide), if_neg (show ¬ b01 true = 0 by decide), iN_s]
        exact ih (k + 1) fu fv z2 K2 q2 _ (by omega) (by omega) (by omega) G2 Y2 L2 (s.trans s2) Z2
  obtain ⟨zs, v, K2, q2, c2, m2, G2, s2⟩ := key 61 0 N N ys K q _ (by omega) (by omega) (by omega) G1 Y1 L1 s1 Z1
  refine ⟨ps, zs, v, K2, q2, ?_, ?_, (G2.th 0).s0 s2.s0⟩
  · unfold f_CT_still
    rw [G.A.gY, ob, G.A.gN, ob, G.A.yc, ob, c1, ob]
    exact c2
  · unfold f_R_still
    rw [m1, ob]
    exact m2
theorem op_custom (G : GS N x o ps ys M r) (hN : 20000 ≤ N) : Both N x o (f_L_custom N x a b o M) (f_R_custom N a b r) := by
  have h5 := G.I.b5
  by_cases h : okR a (cn (r.2 1) 5)
  · by_cases h2 : okI b 0 60
    · obtain ⟨n, -, h3, rfl⟩ := h2
      obtain ⟨K, c1, G1, Y1, L1⟩ := startFrom_cl (N := N) G G.S G.I G.R (by omega) (by omega)
      obtain ⟨q, m1, s1, Z1⟩ := starts_md (r := r_set r 0 0) (N := N) G.I (by omega) 0 0
      obtain ⟨K2, zs, c2, G2, Y2⟩ := passYears_cl (N := N) (w := n) G1 (owS_can _ _ _) Y1 L1 (by omega) h5 (nx_00 G.I) (fun p hp => frM_self _ (by omega)) h3
      obtain ⟨q2, m2, s2, Z2⟩ := years_md (r := q) (N := N) (n := n) (fr := frM (r.2 1)) (ow := owS (r.2 1) 0 0) (by rw [s1.em]; exact G.I) (by omega) (by rw [s1.em]; exact owS_can _ _ _) (by rw [s1.em]; exact Z1) (by rw [s1.em]; exact nx_00 G.I) h3
      rw [s1.em] at Z2
      have hp := h
      obtain ⟨p, h4, rfl⟩ := h
      refine both_ok (v := itM (frM (r.2 1)) (cn (r.2 1) 5) (owS (r.2 1) 0 0) n p) ((G2.th 0).s0 (s1.trans s2).s0) ?_ ?_ ?_
      · rw [s2.1, s1.1]
        exact th0 r 0
      · unfold f_L_custom f_CT_custom
        rw [G.A.c, ob, ob, needP_y G hp, ob, sx_l, show f_CT_needNumber (iN n) 0 60 M = some (.inl (), M) from needN_y (lo := 0) (hi := 60) (by omega) h3 (by decide), ob, sx_l, G.A.gY, ob, G.A.gN, ob, G.A.yc, ob, c1, ob, G1.A.gY, ob, G1.A.yc, ob, c2, ob, G2.A.gY, ob, G2.A.yc, ob]
        unfold f_Years_ownOf
        rw [if_neg (iN_nn (by omega)), G2.A.yi, ob, Y2.1, if_neg (iN_nle h4 (by omega)), G2.A.y2, ob, G2.A.yo G2.A.yq.1 (by omega), ob, (Y2.2 p h4).2, ob, ob, sx_l]
        rfl
      · unfold f_R_custom f_R_custom_28
        rw [isPerson_y G.I hp, ob, if_neg i1n, show f_R_isIn (iN n) 0 60 = some 1 from isInI_y (lo := 0) (hi := 60) (by omega) h3 (by decide), ob, if_neg i1n, th0, if_pos i00, m1, ob, m2, ob, y18 (by omega), ob, (Z2 p h4).1]
        rfl
    · refine both_ex (c := 2) (v := 0) (G.new.th 2) (by decide) (th0 r 2) ?_ ?_
      · unfold f_L_custom f_CT_custom
        rw [G.A.c, ob, ob, needP_y G h, ob, sx_l, show f_CT_needNumber b 0 60 M = some (.inr "java/lang/IllegalArgumentException", m_new M (0, 0)) from needN_n (lo := 0) (hi := 60) h2 (by decide) (by decide), ob, sx_r, ob, sx_r, if_neg (by decide), if_pos rfl]
      · unfold f_R_custom f_R_custom_28
        rw [isPerson_y G.I h, ob, if_neg i1n, show f_R_isIn b 0 60 = some 0 from isInI_n (lo := 0) (hi := 60) h2 (by decide) (by decide), ob, if_pos rfl, th0, if_neg i20]
  · refine both_ex (c := 1) (v := 0) (G.new.th 1) i1n (th0 r 1) ?_ ?_
    · unfold f_L_custom f_CT_custom
      rw [G.A.c, ob, ob, needP_n G h, ob, sx_r, ob, sx_r, if_pos rfl]
    · unfold f_R_custom f_R_custom_28
      rw [isPerson_n G.I h, ob, if_pos rfl, th0, if_neg i10]
end Ys
