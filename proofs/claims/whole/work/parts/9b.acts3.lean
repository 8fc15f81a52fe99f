section Ou
variable {N x o t : Nat} {ps ys : Nat → Nat} {M K : Mem} {r q : Rho} {a b c v : Int32} {m : Nat → Int32} {p j : Nat}
/-- one cell of a person is put: own, or the cold -/
theorem TRel.pset (R : TRel M t m) (I : Inv m) (hp : p < cn m 5) (hj : j = 1 ∨ j = 4) : TRel (m_setI M (t + 11 + 3 * p) j v) t (up1 m (92 + 8 * p + j) v) := by
  have h5 := I.b5
  have b4 := I.b4
  have b6 := I.b6
  have b12 := I.b12
  have lo : ∀ k, k < 92 ∨ 172 ≤ k → up1 m (92 + 8 * p + j) v k = m k := fun k hk => up1_ne (by omega)
  have c : ∀ {i : Nat}, i < 92 → cn (up1 m (92 + 8 * p + j) v) i = cn m i := fun hi => cn_cg (lo _ (by omega))
  refine ⟨⟨?_, ?_, ?_, fun k hk => ?_⟩, ?_, fun q hq => ?_, fun k hk => ?_, ?_, ?_⟩
  · rw [iv_ne (by omega), lo 3 (by omega)]; exact R.v3
  · rw [iv_ne (by omega), lo 4 (by omega)]; exact R.v4
  · rw [iv_ne (by omega), lo 13 (by omega), lo 14 (by omega), lo 15 (by omega)]; exact R.1.2.2.1
  · rw [c (by omega)] at hk
    rw [iv_ne (by omega), iv_ne (by omega), iv_ne (by omega), lo _ (by omega), lo _ (by omega), lo _ (by omega)]
    exact R.hab hk
  · unfold CRel
    rw [iv_ne (by omega), lo 5 (by omega), lo 6 (by omega), lo 0 (by omega), lo 16 (by omega), lo 7 (by omega), lo 8 (by omega), lo 9 (by omega), lo 10 (by omega), lo 11 (by omega)]
    exact R.C
  · have ct : tdS (up1 m (92 + 8 * p + j) v) q = tdS m q := tdS_cg I.b6 (fun k hk => lo k (by omega)) q
    have hmt : ∀ o, o < 10 → mt (up1 m (92 + 8 * p + j) v) q o = mt m q o ∧ swC (up1 m (92 + 8 * p + j) v) q o = swC m q o := fun o ho => ⟨lo _ (by omega), lo _ (by omega)⟩
    by_cases hqp : q = p
    · subst hqp
      obtain ⟨⟨a0, a1, a2, a3⟩, a4, a5, ⟨a6, a7⟩, a8⟩ := (R.P hq).1 hp
      have e : ∀ i, i < 8 → m_iv M (t + 11 + 3 * q) i = pC m q i → m_iv (m_setI M (t + 11 + 3 * q) j v) (t + 11 + 3 * q) i = pC (up1 m (92 + 8 * q + j) v) q i := fun i hi hh => by
        unfold pC at hh ⊢
        rw [iv_same, up1_at, up1_at]
        by_cases hij : i = j
        · rw [if_pos hij, if_pos (by omega)]
        · rw [if_neg hij, if_neg (by omega), hh]
      refine ⟨fun _ => ⟨⟨e 0 (by decide) a0, e 1 (by decide) a1, e 2 (by decide) a2, e 3 (by decide) a3⟩, e 4 (by decide) a4, ?_, ⟨e 6 (by decide) a6, e 7 (by decide) a7⟩, fun o ho => ?_⟩, fun h9 => ?_⟩
      · rw [iv_same, up1_ne (by omega), ct, a5]
      · rw [iv_ne (by omega), iv_ne (by omega), (hmt o ho).1, (hmt o ho).2]
        exact a8 o ho
      · rw [c (by omega)] at h9
        omega
    · exact (R.P hq).mk hq (fun b h1 h2 => iv_ne (by omega)) (c (by omega)) (fun i hi => up1_ne (by omega)) hmt ct
  · rw [c (by omega)] at hk
    unfold tA tB
    rw [iv_ne (by omega), iv_ne (by omega), lo _ (by omega), lo _ (by omega)]
    exact R.E k hk
  · rw [iv_ne (by omega), lo 12 (by omega)]; exact R.G.1
  · obtain ⟨w, hw, e1, e2⟩ := R.G.2
    refine ⟨w, hw, by rw [iv_ne (by omega)]; exact e1, fun k c9 hk hc => ?_⟩
    rw [c (by omega)] at hk
    rw [iv_ne (by omega), e2 k c9 hk hc]
    exact (lo _ (by omega)).symm
theorem Inv.pset (I : Inv m) (hp : p < cn m 5) (hv : (j = 1 ∧ nx v 32) ∨ (j = 4 ∧ (v = 0 ∨ v = 1))) : Inv (up1 m (92 + 8 * p + j) v) := by
  have h5 := I.b5
  have lo : ∀ k, k < 92 ∨ 172 ≤ k → up1 m (92 + 8 * p + j) v k = m k := fun k hk => up1_ne (by omega)
  have c : ∀ {i : Nat}, i < 92 → cn (up1 m (92 + 8 * p + j) v) i = cn m i := fun hi => cn_cg (lo _ (by omega))
  obtain ⟨i1, i2, i3, i4, i5⟩ := I
  refine ⟨i1.cg fun k hk => lo k (by omega), ⟨by rw [lo 5 (by omega)]; exact i2.1, fun q hq => ?_⟩, i3.cg fun k hk => lo k (by omega), i4.cg fun k hk => lo k (by omega), by rw [lo 0 (by omega)]; exact i5⟩
  rw [c (by omega)] at hq
  have hq2 : q < 10 := by omega
  by_cases hqp : q = p
  · subst hqp
    obtain ⟨⟨a1, a2, a3, a4⟩, a5, a6, a7, a8⟩ := i2.2 q hq
    have e : ∀ i, i < 8 → i ≠ j → pC (up1 m (92 + 8 * q + j) v) q i = pC m q i := fun i hi hij => up1_ne (by omega)
    have ev : pC (up1 m (92 + 8 * q + j) v) q j = v := up1_same _ _ _
    have em : ∀ o, o < 10 → mt (up1 m (92 + 8 * q + j) v) q o = mt m q o := fun o ho => lo _ (by omega)
    have es : ∀ o, o < 10 → swC (up1 m (92 + 8 * q + j) v) q o = swC m q o := fun o ho => lo _ (by omega)
    refine ⟨⟨?_, ?_, ?_, ?_⟩, ?_, ?_, fun o ho => by rw [es o ho]; exact a7 o ho, fun o h9 ho => ?_⟩
    · rw [c (by omega), e 0 (by decide) (by omega)]; exact a1
    · rcases hv with ⟨rfl, hv⟩ | ⟨rfl, hv⟩
      · rw [ev]; exact hv
      · rw [e 1 (by decide) (by decide)]; exact a2
    · rw [e 2 (by decide) (by omega)]; exact a3
    · rw [e 3 (by decide) (by omega)]; exact a4
    · rcases hv with ⟨rfl, hv⟩ | ⟨rfl, hv⟩
      · rw [e 4 (by decide) (by decide)]; exact a5
      · rw [ev]; exact hv
    · rw [e 5 (by decide) (by omega), hadM_cg em]; exact a6
    · rw [c (by omega)] at h9
      rw [em o ho, es o ho]
      exact a8 o h9 ho
  · exact (i2.2 q hq).cg hq2 (c (by omega)) (c (by omega)) (fun i hi => up1_ne (by omega)) (fun o ho => ⟨lo _ (by omega), lo _ (by omega)⟩)
theorem GS.pset (G : GS N x o ps ys M r) (hp : p < cn (r.2 1) 5) (hv : (j = 1 ∧ nx v 32) ∨ (j = 4 ∧ (v = 0 ∨ v = 1))) : GS N x o ps ys (m_setI M (x + 2 + 11 + 3 * p) j v) (setM r (up1 (r.2 1) (92 + 8 * p + j) v)) := by
  have h5 := G.I.b5
  refine G.town (Fr.setI (by omega) (by omega) (by omega)) (G.R.pset G.I hp (by omega)) (G.I.pset hp hv) (up1_ne (by omega)) (up1_ne (by omega)) (fun k hk => up1_ne (by omega)) ⟨⟨rfl, rfl, rfl, rfl⟩, rfl, rfl, rfl, rfl, id⟩
theorem op_own (G : GS N x o ps ys M r) (hN : 20000 ≤ N) : Both N x o (f_L_own N x a b o M) (f_R_own N a b r) := by
  have h5 := G.I.b5
  by_cases h1 : okR a (cn (r.2 1) 5)
  · by_cases h2 : okR b 32
    · have h1' := h1
      obtain ⟨p, hp, rfl⟩ := h1
      have hp2 : p < 10 := by omega
      obtain ⟨K1, q1, ps2, c1, m1, G1, em, et⟩ := remember (G.th 0) hN
      have em : q1.2 1 = r.2 1 := em
      have hp1 : p < cn (q1.2 1) 5 := by rw [em]; exact hp
      refine both_ok (v := pC (q1.2 1) p 1) (G1.pset hp1 (Or.inl ⟨rfl, h2⟩)) (et.trans (th0 r 0)) ?_ ?_
      · unfold f_L_own f_CT_own
        rw [G.A.c, ob, ob, needP_y G h1', ob, sx_l, needG_y h2, ob, sx_l, G.A.c, ob, c1, ob, G1.A.gN, ob, G1.S.g_people, ob, G1.S.g_person hp2, ob, G1.S.iP hp2, ob, ob, G1.S.g_people, ob, G1.S.g_person hp2, ob, G1.S.pP hp2, ob, ob, sx_l, G1.R.q1 G1.I hp1]
        rfl
      · unfold f_R_own f_R_own_21
        rw [isPerson_y G.I h1', ob, if_neg i1n, isCode_y h2, ob, if_neg i1n, th0, if_pos i00, m1, ob, of1 hp2, ob, has1 hp2, ob]
    · refine both_ex (c := 1) (v := 0) (G.new.th 1) i1n (th0 r 1) ?_ ?_
      · unfold f_L_own f_CT_own
        rw [G.A.c, ob, ob, needP_y G h1, ob, sx_l, needG_n h2, ob, sx_r, ob, sx_r, if_pos rfl]
      · unfold f_R_own f_R_own_16 f_R_own_21
        rw [isPerson_y G.I h1, ob, if_neg i1n, isCode_n h2, ob, if_pos rfl, th0, if_neg i10]
  · refine both_ex (c := 1) (v := 0) (G.new.th 1) i1n (th0 r 1) ?_ ?_
    · unfold f_L_own f_CT_own
      rw [G.A.c, ob, ob, needP_n G h1, ob, sx_r, ob, sx_r, if_pos rfl]
    · unfold f_R_own f_R_own_16 f_R_own_21
      rw [isPerson_n G.I h1, ob, if_pos rfl, th0, if_neg i10]
/-- the case of cold: an answer that is a flag -/
noncomputable def finC (o : Nat) (z3 : Int32 × Mem) (z6 : Int32 × Rho) (kk : Mem → Rho → Option (Mem × Rho)) : Option (Mem × Rho) :=
  (f_R_thrown z6.2).bind fun z7 => if z7 = z3.1 then (if z3.1 = 0 then ((lld z3.2 o 0).bind fun v8 => if (lg_cmp v8 (bzL z6.1)) = 0 then (kk z3.2 z6.2) else (none)) else (kk z3.2 z6.2)) else (none)
theorem op_cold (G : GS N x o ps ys M r) (hN : 20000 ≤ N) (hb : b = 0 ∨ b = 1) : ∃ ps2 z3 z6, f_L_cold N x a b o M = some z3 ∧ f_R_cold N a b r = some z6 ∧ GS N x o ps2 ys z3.2 z6.2 ∧ ∀ kk, finC o z3 z6 kk = kk z3.2 z6.2 := by
  have h5 := G.I.b5
  by_cases h1 : okR a (cn (r.2 1) 5)
  · have h1' := h1
    obtain ⟨p, hp, rfl⟩ := h1
    have hp2 : p < 10 := by omega
    obtain ⟨K1, q1, ps2, c1, m1, G1, em, et⟩ := remember (G.th 0) hN
    have em : q1.2 1 = r.2 1 := em
    have hp1 : p < cn (q1.2 1) 5 := by rw [em]; exact hp
    have c4 := (G1.I.p hp1).2.1
    have G2 := G1.pset hp1 (Or.inr ⟨rfl, hb⟩ : (4 = 1 ∧ nx b 32) ∨ (4 = 4 ∧ (b = 0 ∨ b = 1)))
    have e1 : f_CT_cold N x (iN p) b M = some (.inl (pC (q1.2 1) p 4), m_setI K1 (x + 2 + 11 + 3 * p) 4 b) := by
      unfold f_CT_cold
      rw [G.A.c, ob, needP_y G h1', ob, sx_l, G.A.c, ob, c1, ob, G1.A.gN, ob, G1.S.g_people, ob, G1.S.g_person hp2, ob, G1.S.iP hp2, ob, ob, G1.S.g_people, ob, G1.S.g_person hp2, ob, G1.S.zP hp2 4 hb, ob, G1.R.q4 G1.I hp1, show zg (pC (q1.2 1) p 4) = some (pC (q1.2 1) p 4) from if_pos c4, ob]
    have e2 : f_R_cold N (iN p) b r = some (pC (q1.2 1) p 4, setM q1 (up1 (q1.2 1) (92 + 8 * p + 4) b)) := by
      unfold f_R_cold f_R_cold_14 f_R_cold_45 f_R_cold_58
      rw [isPerson_y G.I h1', ob, if_neg i1n, th0, if_pos i00, m1, ob, of4 hp2, ob]
      rcases c4 with c4 | c4 <;> rcases hb with rfl | rfl <;> rw [c4]
      · rw [if_neg i01n, if_pos rfl, has4 hp2, ob, zg0, ob]
      · rw [if_neg i01n, if_neg i1n, has4 hp2, ob, zg0, ob]
      · rw [if_pos rfl, if_pos rfl, has4 hp2, ob, zg1, ob]
      · rw [if_pos rfl, if_neg i1n, has4 hp2, ob, zg1, ob]
    generalize m_setI K1 (x + 2 + 11 + 3 * p) 4 b = K2 at e1 G2
    generalize setM q1 (up1 (q1.2 1) (92 + 8 * p + 4) b) = q2 at e2 G2
    have et2 : q2.1 0 = 0 := by
      have h := e2
      have : q2 = setM q1 (up1 (q1.2 1) (92 + 8 * p + 4) b) := by
        have k : f_R_cold N (iN p) b r = some (pC (q1.2 1) p 4, setM q1 (up1 (q1.2 1) (92 + 8 * p + 4) b)) := by
          unfold f_R_cold f_R_cold_14 f_R_cold_45 f_R_cold_58
          rw [isPerson_y G.I h1', ob, if_neg i1n, th0, if_pos i00, m1, ob, of4 hp2, ob]
          rcases c4 with c4 | c4 <;> rcases hb with rfl | rfl <;> rw [c4]
          · rw [if_neg i01n, if_pos rfl, has4 hp2, ob, zg0, ob]
          · rw [if_neg i01n, if_neg i1n, has4 hp2, ob, zg0, ob]
          · rw [if_pos rfl, if_pos rfl, has4 hp2, ob, zg1, ob]
          · rw [if_pos rfl, if_neg i1n, has4 hp2, ob, zg1, ob]
        rw [k] at h
        exact (Prod.mk.inj (Option.some.inj h)).2.symm
      rw [this]
      exact et.trans (th0 r 0)
    refine ⟨ps2, (0, m_setL K2 o 0 (bzL (pC (q1.2 1) p 4))), (pC (q1.2 1) p 4, q2), ?_, e2, G2.setL 0 _, fun kk => ?_⟩
    · unfold f_L_cold f_L_cold_16
      rw [G.A.c, ob, e1, ob, sx_l]
      rcases c4 with c4 | c4 <;> rw [c4]
      · rw [if_pos rfl, lst_o G2, ob]
        rfl
      · rw [if_neg i1n, lst_o G2, ob]
        rfl
    · unfold finC f_R_thrown
      dsimp only
      rw [et2, ob, if_pos rfl, if_pos rfl, lld_o G2, ob, lg_same, if_pos rfl]
  · refine ⟨ps, (1, m_new M (0, 0)), (0, r_set r 0 1), ?_, ?_, G.new.th 1, fun kk => ?_⟩
    · unfold f_L_cold f_CT_cold
      rw [G.A.c, ob, ob, needP_n G h1, ob, sx_r, ob, sx_r, if_pos rfl]
    · unfold f_R_cold f_R_cold_14
      rw [isPerson_n G.I h1, ob, if_pos rfl, th0, if_neg i10]
    · unfold finC f_R_thrown
      dsimp only
      rw [th0, ob, if_pos rfl, if_neg i1n]
theorem op_feast (G : GS N x o ps ys M r) (hN : 20000 ≤ N) : Both N x o (f_L_feast N x a b o M) (f_R_feast N a b r) := by
  by_cases h2 : okR b 32
  · obtain ⟨K1, q1, ps2, c1, m1, G1, em, et⟩ := remember (G.th 0) hN
    have key : ∀ (j k f1 f2 : Nat) (z : Int32) (K : Mem) (q : Rho), k + j = cn (q.2 1) 5 → j < f1 → j < f2 → GS N x o ps2 ys K q → q.1 0 = 0 → ∃ v K2 q2, f_CT_feast_13 N x a b f1 z (iN k) K = some (.inl v, K2) ∧ f_R_feast_34 N a b f2 z (iN k) q = some (v, q2) ∧ GS N x o ps2 ys K2 q2 ∧ q2.1 0 = 0 := by
      intro j
      induction j with
      | zero =>
        intro k f1 f2 z K q hk hf1 hf2 G ht
        obtain ⟨f1, rfl⟩ : ∃ fu, f1 = fu + 1 := ⟨f1 - 1, by omega⟩
        obtain ⟨f2, rfl⟩ : ∃ fu, f2 = fu + 1 := ⟨f2 - 1, by omega⟩
        have hk : k = cn (q.2 1) 5 := by omega
        refine ⟨z, K, q, ?_, ?_, G, ht⟩
        · rw [f_CT_feast_13, G.A.gN, ob, G.S.i0, ob, G.R.v5, G.I.n5, hk, if_pos (i_le_rfl _)]
        · rw [f_R_feast_34, rlm5, ob, G.I.n5, hk, if_pos (i_le_rfl _)]
      | succ j ih =>
        intro k f1 f2 z K q hk hf1 hf2 G ht
        obtain ⟨f1, rfl⟩ : ∃ fu, f1 = fu + 1 := ⟨f1 - 1, by omega⟩
        obtain ⟨f2, rfl⟩ : ∃ fu, f2 = fu + 1 := ⟨f2 - 1, by omega⟩
        have h5 := G.I.b5
        have hk5 : k < cn (q.2 1) 5 := by omega
        have hk2 : k < 10 := by omega
        have g1 : ¬ iN (cn (q.2 1) 5) ≤ iN k := iN_nle hk5 (by omega)
        by_cases hin : b01 (ib a k) = 0
        · have s1 : f_CT_feast_13 N x a b (f1 + 1) z (iN k) K = f_CT_feast_13 N x a b f1 z (iN (k + 1)) K := by
            rw [f_CT_feast_13, G.A.gN, ob, G.S.i0, ob, G.R.v5, G.I.n5, if_neg g1, f_CT_isIn_eq (show k < 32 by omega), ob, if_pos hin, iN_s]
          have s2 : f_R_feast_34 N a b (f2 + 1) z (iN k) q = f_R_feast_34 N a b f2 z (iN (k + 1)) q := by
            rw [f_R_feast_34, rlm5, ob, G.I.n5, if_neg g1, f_R_isOf_eq (show k < 32 by omega), ob, if_pos hin, iN_s]
          rw [s1, s2]
          exact ih (k + 1) f1 f2 z K q (by omega) (by omega) (by omega) G ht
        · have G2 := G.pset hk5 (Or.inl ⟨rfl, h2⟩ : (1 = 1 ∧ nx b 32) ∨ (1 = 4 ∧ (b = 0 ∨ b = 1)))
          have c2 : cn ((setM q (up1 (q.2 1) (92 + 8 * k + 1) b)).2 1) 5 = cn (q.2 1) 5 := cn_cg (up1_ne (by omega))
          by_cases hown : pC (q.2 1) k 1 = b
          · have s1 : f_CT_feast_13 N x a b (f1 + 1) z (iN k) K = f_CT_feast_13 N x a b f1 z (iN (k + 1)) K := by
              rw [f_CT_feast_13, G.A.gN, ob, G.S.i0, ob, G.R.v5, G.I.n5, if_neg g1, f_CT_isIn_eq (show k < 32 by omega), ob, if_neg hin, ob, G.S.g_people, ob, G.S.g_person hk2, ob, G.S.iP hk2, ob, G.R.q1 G.I hk5, if_pos hown, iN_s]
            have s2 : f_R_feast_34 N a b (f2 + 1) z (iN k) q = f_R_feast_34 N a b f2 z (iN (k + 1)) q := by
              rw [f_R_feast_34, rlm5, ob, G.I.n5, if_neg g1, f_R_isOf_eq (show k < 32 by omega), ob, if_neg hin, of1 hk2, ob, if_pos hown]
              unfold f_R_feast_77
              rw [has1 hk2, ob, Int32.or_zero, up1_id (q.2 1) (92 + 8 * k + 1) (show b = q.2 1 (92 + 8 * k + 1) from hown.symm), setM_id, iN_s]
            rw [s1, s2]
            exact ih (k + 1) f1 f2 z K q (by omega) (by omega) (by omega) G ht
          · have s1 : f_CT_feast_13 N x a b (f1 + 1) z (iN k) K = f_CT_feast_13 N x a b f1 (z ||| ((1 : Int32) <<< (iN k &&& 31))) (iN (k + 1)) (m_setI K (x + 2 + 11 + 3 * k) 1 b) := by
              rw [f_CT_feast_13, G.A.gN, ob, G.S.i0, ob, G.R.v5, G.I.n5, if_neg g1, f_CT_isIn_eq (show k < 32 by omega), ob, if_neg hin, ob, G.S.g_people, ob, G.S.g_person hk2, ob, G.S.iP hk2, ob, G.R.q1 G.I hk5, if_neg hown, ob, G.S.g_people, ob, G.S.g_person hk2, ob, G.S.pP hk2, ob, iN_s]
            have s2 : f_R_feast_34 N a b (f2 + 1) z (iN k) q = f_R_feast_34 N a b f2 (z ||| ((1 : Int32) <<< (iN k &&& 31))) (iN (k + 1)) (setM q (up1 (q.2 1) (92 + 8 * k + 1) b)) := by
              rw [f_R_feast_34, rlm5, ob, G.I.n5, if_neg g1, f_R_isOf_eq (show k < 32 by omega), ob, if_neg hin, of1 hk2, ob, if_neg hown]
              unfold f_R_feast_77
              rw [has1 hk2, ob, iN_s]
            rw [s1, s2]
            exact ih (k + 1) f1 f2 _ _ _ (by rw [c2]; omega) (by omega) (by omega) G2 ht
    have hb := G1.I.b5
    obtain ⟨v, K2, q2, c2, m2, G2, et2⟩ := key (cn (q1.2 1) 5) 0 N N 0 K1 q1 (by omega) (by omega) (by omega) G1 (et.trans (th0 r 0))
    refine both_ok (v := v) G2 et2 ?_ ?_
    · unfold f_L_feast f_CT_feast
      rw [G.A.c, ob, needG_y h2, ob, sx_l, G.A.c, ob, c1, ob, show f_CT_feast_13 N x a b N 0 0 K1 = some (.inl v, K2) from c2, ob, sx_l]
      rfl
    · unfold f_R_feast f_R_feast_13
      rw [isCode_y h2, ob, if_neg i1n, th0, if_pos i00, m1, ob]
      exact m2
  · refine both_ex (c := 1) (v := 0) (G.new.th 1) i1n (th0 r 1) ?_ ?_
    · unfold f_L_feast f_CT_feast
      rw [G.A.c, ob, needG_n h2, ob, sx_r, ob, sx_r, if_pos rfl]
    · unfold f_R_feast f_R_feast_13
      rw [isCode_n h2, ob, if_pos rfl, th0, if_neg i10]
theorem op_seed (G : GS N x o ps ys M r) : ∃ v K q, f_CT_seed x a M = some (v, K) ∧ f_R_seed a r = some (v, q) ∧ GS N x o ps ys K q := by
  refine ⟨r.2 1 16, m_setI M (x + 2) 8 a, setM (r_set r 0 0) (up1 (r.2 1) 16 a), ?_, ?_, ?_⟩
  · unfold f_CT_seed
    rw [G.A.gN, ob, G.S.i0, ob, ob, G.S.p0, ob, G.R.v16]
  · unfold f_R_seed
    rw [rlm16, ob, wrm16, ob]
    rfl
  · exact (G.th 0).town (Fr.setI (by omega) (by omega) (by omega)) (G.R.seed G.S G.I a) (G.I.cgC fun k h1 h2 h3 => up1_ne (by omega)) (up1_ne (by decide)) (up1_ne (by decide)) (fun k hk => up1_ne (by omega)) ⟨⟨rfl, rfl, rfl, rfl⟩, rfl, rfl, rfl, rfl, id⟩
end Ou
