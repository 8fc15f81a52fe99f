section Ti
variable {N x o t : Nat} {ps ys : Nat → Nat} {M K : Mem} {r q : Rho} {a b d e v : Int32} {n p s c : Nat} {m m2 : Nat → Int32}
/-- the ties have changed alone -/
theorem tie_I (I : Inv m) (hm : ∀ k, k ≠ 6 → ¬ (372 ≤ k ∧ k < 420) → m2 k = m k) (hT : IT m2) : Inv m2 :=
  ⟨I.1.cg fun k hk => hm k (by omega) (by omega), I.2.1.cg fun k hk => hm k (by omega) (by omega), hT, I.2.2.2.1.cg fun k hk => hm k (by omega) (by omega), by rw [hm 0 (by decide) (by omega)]; exact I.2.2.2.2⟩
theorem tie_T (R : TRel M t m) (I : Inv m) (hm : ∀ k, k ≠ 6 → ¬ (372 ≤ k ∧ k < 420) → m2 k = m k) (k0 : m_iv K t 5 = m2 6) (k1 : ∀ j, j ≠ 5 → m_iv K t j = m_iv M t j) (kE : ∀ k, k < cn m2 6 → m_iv K (t + 7) k = tA m2 k ∧ m_iv K (t + 8) k = tB m2 k) (kP : ∀ g j, g < 10 → j ≠ 5 → m_iv K (t + 11 + 3 * g) j = m_iv M (t + 11 + 3 * g) j) (kQ : ∀ g, g < cn m 5 → m_iv K (t + 11 + 3 * g) 5 = tdS m2 g) (kR : ∀ g, g < 10 → cn m 5 ≤ g → m_iv K (t + 11 + 3 * g) 5 = m_iv M (t + 11 + 3 * g) 5) (ko : ∀ b, t ≤ b → b < t + 41 → b ≠ t → b ≠ t + 7 → b ≠ t + 8 → (∀ g, g < 10 → b ≠ t + 11 + 3 * g) → m_iv K b = m_iv M b) : TRel K t m2 := by
  have h4 := I.b4
  have h12 := I.b12
  have c5 : cn m2 5 = cn m 5 := cn_cg (hm 5 (by decide) (by omega))
  have kk : ∀ i, i < 11 → i ≠ 0 → i ≠ 7 → i ≠ 8 → m_iv K (t + i) = m_iv M (t + i) := fun i h1 h2 h3 h5 => ko _ (by omega) (by omega) (by omega) (by omega) (by omega) (fun g _ => by omega)
  refine ⟨⟨?_, ?_, ⟨?_, ?_, ?_⟩, fun k hk => ?_⟩, ⟨?_, k0, ?_, ?_, ?_, ?_, ?_, ?_, ?_⟩, fun g hg => ?_, kE, ?_⟩
  · rw [kk 1 (by decide) (by decide) (by decide) (by decide), hm 3 (by decide) (by omega)]; exact R.1.1
  · rw [kk 1 (by decide) (by decide) (by decide) (by decide), hm 4 (by decide) (by omega)]; exact R.1.2.1
  · rw [kk 2 (by decide) (by decide) (by decide) (by decide), hm 13 (by decide) (by omega)]; exact R.1.2.2.1.1
  · rw [kk 2 (by decide) (by decide) (by decide) (by decide), hm 14 (by decide) (by omega)]; exact R.1.2.2.1.2.1
  · rw [kk 2 (by decide) (by decide) (by decide) (by decide), hm 15 (by decide) (by omega)]; exact R.1.2.2.1.2.2
  · rw [cn_cg (hm 4 (by decide) (by omega))] at hk
    rw [kk 3 (by decide) (by decide) (by decide) (by decide), kk 4 (by decide) (by decide) (by decide) (by decide), kk 5 (by decide) (by decide) (by decide) (by decide), hm _ (by omega) (by omega), hm _ (by omega) (by omega), hm _ (by omega) (by omega)]
    exact R.1.2.2.2 k hk
  · rw [k1 2 (by decide), hm 5 (by decide) (by omega)]; exact R.v5
  · rw [k1 7 (by decide), hm 0 (by decide) (by omega)]; exact R.v0
  · rw [k1 8 (by decide), hm 16 (by decide) (by omega)]; exact R.v16
  · rw [k1 9 (by decide), hm 7 (by decide) (by omega)]; exact R.v7
  · rw [k1 10 (by decide), hm 8 (by decide) (by omega)]; exact R.v8
  · rw [k1 11 (by decide), hm 9 (by decide) (by omega)]; exact R.v9
  · rw [k1 12 (by decide), hm 10 (by decide) (by omega)]; exact R.v10
  · rw [k1 13 (by decide), hm 11 (by decide) (by omega)]; exact R.v11
  · have r1 : m_iv K (t + 12 + 3 * g) = m_iv M (t + 12 + 3 * g) := ko _ (by omega) (by omega) (by omega) (by omega) (by omega) (fun g _ => by omega)
    have r2 : m_iv K (t + 13 + 3 * g) = m_iv M (t + 13 + 3 * g) := ko _ (by omega) (by omega) (by omega) (by omega) (by omega) (fun g _ => by omega)
    have hj : ∀ j, j < 8 → pC m2 g j = pC m g j := fun j hj => hm _ (by omega) (by omega)
    have ho : ∀ o, o < 10 → mt m2 g o = mt m g o ∧ swC m2 g o = swC m g o := fun o ho => ⟨hm _ (by omega) (by omega), hm _ (by omega) (by omega)⟩
    have h := R.P hg
    unfold PRel at h ⊢
    rw [kP g 0 hg (by decide), kP g 1 hg (by decide), kP g 2 hg (by decide), kP g 3 hg (by decide), kP g 4 hg (by decide), kP g 6 hg (by decide), kP g 7 hg (by decide), r1, r2, c5, hj 0 (by decide), hj 1 (by decide), hj 2 (by decide), hj 3 (by decide), hj 4 (by decide), hj 6 (by decide), hj 7 (by decide)]
    refine ⟨fun h9 => ?_, fun h9 => ?_⟩
    · obtain ⟨u1, u2, u3, u4, u5⟩ := h.1 h9
      refine ⟨u1, u2, kQ g h9, u4, fun o hoo => ?_⟩
      rw [(ho o hoo).1, (ho o hoo).2]
      exact u5 o hoo
    · obtain ⟨u2, u3, u4⟩ := h.2 h9
      exact ⟨u2, (kR g hg h9).trans u3, u4⟩
  · obtain ⟨g1, w, g2, g3, g4⟩ := R.G
    refine ⟨?_, w, g2, ?_, fun k j hk hj => ?_⟩
    · rw [kk 9 (by decide) (by decide) (by decide) (by decide), hm 12 (by decide) (by omega)]; exact g1
    · rw [kk 9 (by decide) (by decide) (by decide) (by decide)]; exact g3
    · rw [cn_cg (hm 12 (by decide) (by omega))] at hk
      rw [kk 10 (by decide) (by decide) (by decide) (by decide), show lgc m2 k j = lgc m k j from hm _ (by omega) (by omega)]
      exact g4 k j hk hj
/-! one more tie -/
def atM (m : Nat → Int32) (n : Nat) (a b : Int32) : Nat → Int32 := up1 (up1 (up1 m (372 + 2 * n) a) (372 + 2 * n + 1) b) 6 (iN (n + 1))
def atK (M : Mem) (t p s n : Nat) : Mem := m_setI (m_setI (m_setI (m_setI (m_setI M (t + 7) n (iN p)) (t + 8) n (iN s)) t 5 (iN (n + 1))) (t + 11 + 3 * p) 5 (m_iv M (t + 11 + 3 * p) 5 ||| ((1 : Int32) <<< (iN s &&& 31)))) (t + 11 + 3 * s) 5 (m_iv M (t + 11 + 3 * s) 5 ||| ((1 : Int32) <<< (iN p &&& 31)))
theorem atM_o (hn : n < 24) {k : Nat} (h : k ≠ 6) (h2 : ¬ (372 ≤ k ∧ k < 420)) : atM m n a b k = m k := by
  unfold atM
  rw [up1_ne h, up1_ne (by omega), up1_ne (by omega)]
theorem atM_A (hn : n < 24) {k : Nat} (hk : k < 24) : tA (atM m n a b) k = if k = n then a else tA m k := by
  unfold atM tA
  rw [up1_ne (by omega), up1_ne (by omega), up1_at]
  by_cases h : k = n
  · rw [if_pos h, if_pos (by omega)]
  · rw [if_neg h, if_neg (by omega)]
theorem atM_B (hn : n < 24) {k : Nat} (hk : k < 24) : tB (atM m n a b) k = if k = n then b else tB m k := by
  unfold atM tB
  rw [up1_ne (by omega), up1_at]
  by_cases h : k = n
  · rw [if_pos h, if_pos (by omega)]
  · rw [if_neg h, if_neg (by omega), up1_ne (by omega)]
theorem atM_6 (hn : n < 24) : cn (atM m n a b) 6 = n + 1 := iN_cl (by omega)
theorem addTie_eq (S : Shape M t) (h6 : m_iv M t 5 = iN n) (hn : n < 24) (hp : p < 10) (hs : s < 10) (hps : p ≠ s) : f_Town_addTie t (iN p) (iN s) M = some (atK M t p s n) := by
  unfold f_Town_addTie atK
  have S4 : Shape (m_setI M (t + 7) n (iN p)) t := S.setI
  have S7 : Shape (m_setI (m_setI M (t + 7) n (iN p)) (t + 8) n (iN s)) t := S4.setI
  have S9 : Shape (m_setI (m_setI (m_setI M (t + 7) n (iN p)) (t + 8) n (iN s)) t 5 (iN (n + 1))) t := S7.setI
  have S13 : Shape (m_setI (m_setI (m_setI (m_setI M (t + 7) n (iN p)) (t + 8) n (iN s)) t 5 (iN (n + 1))) (t + 11 + 3 * p) 5 (m_iv M (t + 11 + 3 * p) 5 ||| ((1 : Int32) <<< (iN s &&& 31)))) t := S9.setI
  rw [S.i0, ob, h6, if_neg (show ¬ (24 : Int32) ≤ iN n from iN_nle hn (by decide)), S.g_who, ob, ob, S.s7 hn, ob, S4.g_whom, ob, S4.i0, ob, iv_ne (by omega), h6, S4.s8 hn, ob, S7.i0, ob, iv_ne (by omega), iv_ne (by omega), h6, iN_s, S7.p0, ob, S9.g_people, ob, S9.g_person hp, ob, S9.iP hp, ob, iv_ne (by omega), iv_ne (by omega), iv_ne (by omega), S9.pP hp, ob, S13.g_people, ob, S13.g_person hs, ob, S13.iP hs, ob, iv_ne (by omega), iv_ne (by omega), iv_ne (by omega), iv_ne (by omega), S13.pP hs, ob]
theorem binds_eq (h6 : r.2 1 6 = iN n) (hn : n < 24) (a b : Int32) : f_R_binds a b r = some (setM r (atM (r.2 1) n a b)) := by
  unfold f_R_binds atM
  rw [rlm6, ob, h6, show (372 : Int32) + 2 * iN n = iN (372 + 2 * n) by simp only [q0, q1, q2, q3, q4, q5, q6, q7, q8, q10, q20, q92, q172, q272, q372, q420, q900, iN_mul, iN_add], rw1 (by omega), ob, rlm6, ob, setM_m, up1_ne (by omega), h6, show ((372 : Int32) + 2 * iN n) + 1 = iN (372 + 2 * n + 1) by simp only [q0, q1, q2, q3, q4, q5, q6, q7, q8, q10, q20, q92, q172, q272, q372, q420, q900, iN_mul, iN_add], rw1 (by omega), ob, setM_setM, setM_m, rlm6, ob, setM_m, up1_ne (by omega), up1_ne (by omega), h6, iN_s, wrm6, ob, setM_setM, setM_m]
theorem at_td (h6 : m 6 = iN n) (hn : n < 24) (hp : p < 10) (hs : s < 10) {g k : Nat} (hg : g < 100) (hk : k < 100) : tdB (atM m n (iN p) (iN s)) g k = (tdB m g k || decide ((g = p ∧ k = s) ∨ (g = s ∧ k = p))) := by
  unfold tdB
  rw [atM_6 hn, show cn m 6 = n by unfold cn; rw [h6, iN_cl (by omega)]]
  show (anyB _ n || _) = _
  rw [anyB_cg (g := fun i => decide ((tA m i = iN g ∧ tB m i = iN k) ∨ (tA m i = iN k ∧ tB m i = iN g))) (fun i hi => by rw [atM_A hn (by omega), atM_B hn (by omega), if_neg (by omega), if_neg (by omega)])]
  dsimp only
  rw [atM_A hn hn, atM_B hn hn, if_pos rfl, if_pos rfl]
  refine congrArg _ (decide_eq_decide.mpr ?_)
  rw [iN_inj (by omega) (by omega), iN_inj (by omega) (by omega), iN_inj (by omega) (by omega), iN_inj (by omega) (by omega)]
  omega
theorem at_IT (I : Inv m) (h6 : m 6 = iN n) (hn : n < 24) (hp : p < cn m 5) (hs : s < cn m 5) (hps : p ≠ s) (ht : tdB m p s = false) : IT (atM m n (iN p) (iN s)) := by
  have hb := I.b5
  have c6 : cn m 6 = n := by unfold cn; rw [h6, iN_cl (by omega)]
  have c5 : cn (atM m n (iN p) (iN s)) 5 = cn m 5 := cn_cg (atM_o hn (by decide) (by omega))
  have hno : ∀ j, j < n → ¬ (tieOf m j p s ∨ tieOf m j s p) := fun j hj h => by
    rw [(tdB_iff m p s).mpr ⟨j, by omega, h⟩] at ht
    cases ht
  refine ⟨⟨n + 1, by omega, up1_same _ _ _⟩, fun k hk => ?_, fun j k hj hk => ?_⟩
  · rw [atM_6 hn] at hk
    unfold tieOf
    rw [c5, atM_A hn (by omega), atM_B hn (by omega)]
    by_cases h : k = n
    · rw [if_pos h, if_pos h]
      exact ⟨p, s, hp, hs, hps, rfl, rfl⟩
    · rw [if_neg h, if_neg h]
      exact I.t (k := k) (by omega)
  · rw [atM_6 hn] at hk
    rw [atM_A hn (show k < 24 by omega), atM_B hn (show k < 24 by omega), atM_A hn (show j < 24 by omega), atM_B hn (show j < 24 by omega), if_neg (show ¬ j = n by omega), if_neg (show ¬ j = n by omega)]
    by_cases h : k = n
    · rw [if_pos h, if_pos h]
      exact ⟨fun h => hno j (by omega) (Or.inl h), fun h => hno j (by omega) (Or.inr h)⟩
    · rw [if_neg h, if_neg h]
      exact I.2.2.1.2.2 j k hj (by omega)
theorem at_T (R : TRel M t m) (I : Inv m) (h6 : m 6 = iN n) (hn : n < 24) (hp : p < cn m 5) (hs : s < cn m 5) (hps : p ≠ s) (ht : tdB m p s = false) : Inv (atM m n (iN p) (iN s)) ∧ TRel (atK M t p s n) t (atM m n (iN p) (iN s)) := by
  have hb := I.b5
  have c6 : cn m 6 = n := by unfold cn; rw [h6, iN_cl (by omega)]
  have hT := at_IT I h6 hn hp hs hps ht
  have I2 := tie_I I (fun k => atM_o hn) hT
  refine ⟨I2, tie_T R I (fun k => atM_o hn) ?_ (fun j hj => ?_) (fun k hk => ?_) (fun g j hg hj => ?_) (fun g hg => ?_) (fun g hg h9 => ?_) (fun b h1 h2 h3 h4 h5 h9 => ?_)⟩
  · unfold atK
    rw [iv_ne (by omega), iv_ne (by omega), iv_same, up1_same]
    rfl
  · unfold atK
    rw [iv_ne (by omega), iv_ne (by omega), iv_same, up1_ne hj, iv_ne (by omega), iv_ne (by omega)]
  · rw [atM_6 hn] at hk
    rw [atM_A hn (by omega), atM_B hn (by omega)]
    unfold atK
    rw [iv_ne (by omega), iv_ne (by omega), iv_ne (by omega), iv_ne (by omega), iv_same, iv_ne (by omega), iv_ne (by omega), iv_ne (by omega), iv_same, iv_ne (by omega), up1_at, up1_at]
    by_cases h : k = n
    · rw [if_pos h, if_pos h, if_pos h, if_pos h]
      exact ⟨rfl, rfl⟩
    · rw [if_neg h, if_neg h, if_neg h, if_neg h]
      exact R.E k (by omega)
  · unfold atK
    rw [iv_setI, if_neg (fun w => hj w.2), iv_setI, if_neg (fun w => hj w.2), iv_ne (by omega), iv_ne (by omega), iv_ne (by omega)]
  · unfold atK
    rw [iv_setI, iv_setI, iv_ne (by omega), iv_ne (by omega), iv_ne (by omega), R.q5 I hs, R.q5 I hp, R.q5 I hg]
    by_cases h1 : g = s
    · subst h1
      rw [if_pos ⟨rfl, rfl⟩]
      refine ib_ext fun k hk => ?_
      rw [ib_or, ib_tdS I (by omega) hk, ib_shl (by omega), ib_tdS I2 (by omega) hk, at_td h6 hn (by omega) (by omega) (by omega) (by omega)]
      refine congrArg _ (decide_eq_decide.mpr ?_)
      omega
    · rw [if_neg (by omega)]
      by_cases h2 : g = p
      · subst h2
        rw [if_pos ⟨rfl, rfl⟩]
        refine ib_ext fun k hk => ?_
        rw [ib_or, ib_tdS I (by omega) hk, ib_shl (by omega), ib_tdS I2 (by omega) hk, at_td h6 hn (by omega) (by omega) (by omega) (by omega)]
        refine congrArg _ (decide_eq_decide.mpr ?_)
        omega
      · rw [if_neg (by omega)]
        refine ib_ext fun k hk => ?_
        rw [ib_tdS I (by omega) hk, ib_tdS I2 (by omega) hk, at_td h6 hn (by omega) (by omega) (by omega) (by omega), decide_eq_false (by omega), Bool.or_false]
  · unfold atK
    rw [iv_ne (by omega), iv_ne (by omega), iv_ne (by omega), iv_ne (by omega), iv_ne (by omega)]
  · have := h9 p (by omega)
    have := h9 s (by omega)
    unfold atK
    rw [iv_ne (by omega), iv_ne (by omega), iv_ne (by omega), iv_ne (by omega), iv_ne (by omega)]
theorem at_F (hp : p < 10) (hs : s < 10) : Fr (x + 2) 41 (x + 628) M (atK M (x + 2) p s n) :=
  ((((Fr.setI (by omega) (by omega) (by omega)).trans (Fr.setI (by omega) (by omega) (by omega))).trans (Fr.setI (by omega) (by omega) (by omega))).trans (Fr.setI (by omega) (by omega) (by omega))).trans (Fr.setI (by omega) (by omega) (by omega))
theorem op_ties (G : GS N x o ps ys M r) (hN : 20000 ≤ N) : Both N x o (f_L_ties N x a b o M) (f_R_ties N a b r) := by
  have h5 := G.I.b5
  have h6 := G.I.b6
  by_cases h : okT (r.2 1) a b
  · obtain ⟨p, q, hp, hq, hpq, rfl, rfl⟩ := h
    obtain ⟨e1, e2⟩ := two_ok G hp hq hpq
    have c2 := f_Town_areTied_eq G.S G.I G.R hp hq
    have m2 := f_R_areTied_eq (r := r) (N := N) G.I (by omega) p q
    cases ht : tdB (r.2 1) p q with
    | true =>
      rw [ht] at c2 m2
      refine both_ex (c := 3) (v := 0) (G.new.th 3) (by decide) (th0 r 3) ?_ ?_
      · unfold f_L_ties f_CT_ties
        rw [G.A.c, ob, ob, e1, ob, sx_l, G.A.gN, ob, G.S.c0, ob, c2, ob, if_neg (by decide), ob, sx_r, if_neg (by decide), if_neg (by decide), if_pos rfl]
      · unfold f_R_ties f_R_ties_49
        rw [e2, ob, if_pos i00, m2, ob, if_neg (by decide), th0, if_neg (by decide)]
    | false =>
      rw [ht, b01_f] at c2 m2
      by_cases h24 : cn (r.2 1) 6 = 24
      · have e24 : r.2 1 6 = 24 := by rw [G.I.n6, h24]; rfl
        refine both_ex (c := 4) (v := 0) (G.new.th 4) (by decide) (th0 r 4) ?_ ?_
        · unfold f_L_ties f_CT_ties
          rw [G.A.c, ob, ob, e1, ob, sx_l, G.A.gN, ob, G.S.c0, ob, c2, ob, if_pos rfl, ob, G.S.i0, ob, G.R.v6, e24, if_neg (by decide), ob, sx_r, if_neg (by decide), if_neg (by decide), if_neg (by decide), if_pos rfl]
        · unfold f_R_ties f_R_ties_49
          rw [e2, ob, if_pos i00, m2, ob, if_pos rfl, rlm6, ob, e24, if_pos rfl, th0, if_neg (by decide)]
      · obtain ⟨K1, q1, ps2, c1, m1, G1, em, et⟩ := remember (G.th 0) hN
        have em : q1.2 1 = r.2 1 := em
        have n6 : q1.2 1 6 = iN (cn (r.2 1) 6) := by rw [em]; exact G.I.n6
        have hn : cn (r.2 1) 6 < 24 := by omega
        have hne : ¬ r.2 1 6 = 24 := by
          rw [G.I.n6]
          exact iN_ne (b := 24) h24 (by omega) (by decide)
        have hp1 : p < cn (q1.2 1) 5 := by rw [em]; exact hp
        have hq1 : q < cn (q1.2 1) 5 := by rw [em]; exact hq
        have ht1 : tdB (q1.2 1) p q = false := by rw [em]; exact ht
        obtain ⟨I2, R2⟩ := at_T G1.R G1.I n6 hn hp1 hq1 hpq ht1
        have cA := addTie_eq (n := cn (r.2 1) 6) (p := p) (s := q) G1.S (by rw [G1.R.v6, n6]) hn (by omega) (by omega) hpq
        have F := at_F (x := x) (M := K1) (n := cn (r.2 1) 6) (p := p) (s := q) (by omega) (by omega)
        have S2 : Shape (atK K1 (x + 2) p q (cn (r.2 1) 6)) (x + 2) := F.shape G1.S
        have G2 : GS N x o ps2 ys (atK K1 (x + 2) p q (cn (r.2 1) 6)) (setM q1 (atM (q1.2 1) (cn (r.2 1) 6) (iN p) (iN q))) :=
          G1.town F R2 I2 (atM_o hn (by decide) (by omega)) (atM_o hn (by decide) (by omega)) (fun k hk => atM_o hn (by omega) (by omega)) ⟨⟨rfl, rfl, rfl, rfl⟩, rfl, rfl, rfl, rfl, id⟩
        refine both_ok (v := iN (cn (r.2 1) 6 + 1) - 1) G2 (et.trans (th0 r 0)) ?_ ?_
        · unfold f_L_ties f_CT_ties
          rw [G.A.c, ob, ob, e1, ob, sx_l, G.A.gN, ob, G.S.c0, ob, c2, ob, if_pos rfl, ob, G.S.i0, ob, G.R.v6, if_pos (show r.2 1 6 < 24 by rw [G.I.n6]; exact iN_ylt (n := 24) hn (by decide)), G.A.c, ob, c1, ob, G1.A.gN, ob, G1.S.c0, ob, cA, ob, G2.A.gN, ob, S2.i0, ob, R2.v6, ob, sx_l]
          rfl
        · unfold f_R_ties f_R_ties_49
          rw [e2, ob, if_pos i00, m2, ob, if_pos rfl, rlm6, ob, if_neg hne, th0, if_pos i00, m1, ob, binds_eq n6 hn, ob, rlm6, ob]
          rfl
  · rcases two_ex G h with ⟨e1, e2⟩ | ⟨e1, e2⟩
    · refine both_ex (c := 1) (v := 0) (G.new.th 1) i1n (th0 r 1) ?_ ?_
      · unfold f_L_ties f_CT_ties
        rw [G.A.c, ob, ob, e1, ob, sx_r, ob, sx_r, if_pos rfl]
      · unfold f_R_ties f_R_ties_49
        rw [e2, ob, if_neg i10, ob, th0, if_neg i10]
    · refine both_ex (c := 2) (v := 0) (G.new.th 2) (by decide) (th0 r 2) ?_ ?_
      · unfold f_L_ties f_CT_ties
        rw [G.A.c, ob, ob, e1, ob, sx_r, ob, sx_r, if_neg (by decide), if_pos rfl]
      · unfold f_R_ties f_R_ties_49
        rw [e2, ob, if_neg i20, ob, th0, if_neg i20]
end Ti
