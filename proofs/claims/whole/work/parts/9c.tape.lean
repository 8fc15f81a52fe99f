section Ta
variable {N x o : Nat} {ps ys : Nat → Nat} {M K : Mem} {r q : Rho} {a b c d e v : Int32} {n : Nat}
/-- the tape has changed, all else is as it was -/
theorem GS.tape (G : GS N x o ps ys M r) (h1 : m_sz K = m_sz M ∧ m_kd K = m_kd M ∧ m_rv K = m_rv M ∧ m_lv K = m_lv M) (h2 : ∀ b, b ≠ x → b ≠ x + 1 → m_iv K b = m_iv M b) (h3 : ∀ j, j ≠ 1 → m_iv K x j = m_iv M x j) (h4 : m_iv K x 1 = iN n) (hn : n ≤ 400) (h5 : ∀ k, k < 400 → m_iv K (x + 1) k = q.2 7 k) (q8 : q.1 8 = iN n)
    (hq : q.2 1 = r.2 1 ∧ q.2 2 = r.2 2 ∧ q.2 5 = r.2 5 ∧ q.1 3 = r.1 3 ∧ q.1 6 = r.1 6 ∧ q.1 12 = r.1 12 ∧ (Bz r → Bz q)) : GS N x o ps ys K q := by
  obtain ⟨A, ⟨k1, k2, k3, k4⟩, T, g, ⟨p1, p2, p3⟩, f, ⟨i1, i2⟩, ⟨a1, a2, a3⟩⟩ := G
  obtain ⟨e1, e2, e5, f3, f6, f12⟩ := hq
  have F : Fr x 2 (x + 628) M K := Fr.of h1 (fun b hb => h2 b (by omega) (by omega)) (by omega)
  refine ⟨A.kr h1.2.1 h1.2.2.1 h1.1, ⟨by rw [h1.2.1]; exact k1, k2, by rw [h1.1]; exact k3, fun b hb => by rw [h1.2.1]; exact k4 b (by rw [← h1.1]; exact hb)⟩, fun g hg => ?_, ?_, ⟨by rw [h4, q8], by rw [q8]; exact ⟨n, hn, rfl⟩, h5⟩, ?_, ⟨?_, ?_⟩, ⟨?_, ?_, fun k hk => ?_⟩⟩
  · rw [h2 _ (by omega) (by omega)]; exact T g hg
  · rw [e1]
    exact g.fr F (by omega) (by omega)
  · exact ⟨by rw [h3 2 (by decide), f12.1]; exact f.1, f12.2 f.2⟩
  · rw [h3 5 (by decide), f3]; exact i1
  · rw [f3, e2]
    exact i2.imp id fun w => ⟨w.1, w.2.fr F (by omega) (by omega)⟩
  · rw [h3 7 (by decide), f6]; exact a1
  · rw [f6]; exact a2
  · rw [f6] at hk
    have hp := A.pl (i := k) (by have := (nb_c a2 (by decide)).2; omega)
    have ea : acM q k = acM r k := by
      unfold acM
      rw [e1, e5]
    rw [ea]
    exact (a3 k hk).fr F (by omega) (by omega)
theorem op_end (G : GS N x o ps ys M r) : ∃ v K q, f_CT_end x a M = some (v, K) ∧ f_R_end a r = some (v, q) ∧ GS N x o ps ys K q := by
  have p1 := G.2.2.2.2.1.1
  obtain ⟨n8, b8⟩ := nb_c G.2.2.2.2.1.2.1 (by decide)
  generalize hn : (r.1 8).toNatClampNeg = n at *
  by_cases h : okI a 0 n
  · obtain ⟨k, -, hk, rfl⟩ := h
    refine ⟨1, m_setI M x 1 (iN k), r_set (r_set r 0 0) 8 (iN k), ?_, ?_, ?_⟩
    · unfold f_CT_end
      rw [if_neg (iN_nn (by omega)), G.A.i, ob, p1, n8, if_pos (iN_yle hk (by omega)), G.A.p, ob]
    · unfold f_R_end
      rw [set_f (by decide), n8, show f_R_isIn (iN k) 0 (iN n) = some 1 from isInI_y (Nat.zero_le k) hk (by omega), ob, if_neg i1n]
    · refine G.tape (n := k) (setI_sz _ _ _ _) (fun b h1 h2 => iv_ne h1) (fun j hj => by rw [iv_same, up1_ne hj]) (by rw [iv_same, up1_same]) (by omega) (fun i hi => by rw [iv_ne (by omega)]; exact G.2.2.2.2.1.2.2 i hi) (set_s _ 8 _) ⟨rfl, rfl, rfl, rfl, rfl, rfl, id⟩
  · refine ⟨0, M, r_set r 0 0, ?_, ?_, G.th 0⟩
    · unfold f_CT_end
      rcases okI_no h (by omega) (by decide) with h1 | h1
      · rw [if_pos (show a < 0 from h1)]
      · by_cases h0 : a < 0
        · rw [if_pos h0]
        · rw [if_neg h0, G.A.i, ob, p1, n8, if_neg (Int32.not_le.mpr h1)]
    · unfold f_R_end
      rw [set_f (by decide), n8, show f_R_isIn a 0 (iN n) = some 0 from isInI_n h (by omega) (by decide), ob, if_pos rfl]
/-- a byte of a number -/
def byF (v : Int32) (j : Nat) : Int32 := (ushr v (iN (24 - 8 * j))) &&& 255
def shF (k : Nat) : Int32 := if k = 4 then -8 else iN (24 - 8 * k)
theorem shF_s {k : Nat} (hk : k < 4) : shF k + (-8) = shF (k + 1) := by
  have h : k = 0 ∨ k = 1 ∨ k = 2 ∨ k = 3 := by omega
  rcases h with rfl | rfl | rfl | rfl <;> decide
theorem feed4 (A : XSk M x ps ys) (hN : 20 < N) (hn : n + 4 ≤ 400) (h : m_iv M x 1 = iN n) (v : Int32) : ∃ K, f_CT_feedNumber N x v M = some K ∧ (m_sz K = m_sz M ∧ m_kd K = m_kd M ∧ m_rv K = m_rv M ∧ m_lv K = m_lv M) ∧ (∀ b, b ≠ x → b ≠ x + 1 → m_iv K b = m_iv M b) ∧ (∀ j, j ≠ 1 → m_iv K x j = m_iv M x j) ∧ m_iv K x 1 = iN (n + 4) ∧ ∀ i, m_iv K (x + 1) i = if n ≤ i ∧ i < n + 4 then byF v (i - n) else m_iv M (x + 1) i := by
  have key : ∀ (j k fuel : Nat) (K : Mem), k + j = 4 → j < fuel → (m_sz K = m_sz M ∧ m_kd K = m_kd M ∧ m_rv K = m_rv M ∧ m_lv K = m_lv M) → (∀ b, b ≠ x → b ≠ x + 1 → m_iv K b = m_iv M b) → (∀ j, j ≠ 1 → m_iv K x j = m_iv M x j) → m_iv K x 1 = iN (n + k) → (∀ i, m_iv K (x + 1) i = if n ≤ i ∧ i < n + k then byF v (i - n) else m_iv M (x + 1) i) →
      ∃ L, f_CT_feedNumber_3 N x v fuel (shF k) K = some L ∧ (m_sz L = m_sz M ∧ m_kd L = m_kd M ∧ m_rv L = m_rv M ∧ m_lv L = m_lv M) ∧ (∀ b, b ≠ x → b ≠ x + 1 → m_iv L b = m_iv M b) ∧ (∀ j, j ≠ 1 → m_iv L x j = m_iv M x j) ∧ m_iv L x 1 = iN (n + 4) ∧ ∀ i, m_iv L (x + 1) i = if n ≤ i ∧ i < n + 4 then byF v (i - n) else m_iv M (x + 1) i := by
    intro j
    induction j with
    | zero =>
      intro k fuel K hk hf g1 g2 g3 g4 g5
      obtain ⟨fu, rfl⟩ : ∃ fu, fuel = fu + 1 := ⟨fuel - 1, by omega⟩
      obtain rfl : k = 4 := by omega
      refine ⟨K, ?_, g1, g2, g3, g4, g5⟩
      rw [f_CT_feedNumber_3, if_pos (show shF 4 < 0 by decide)]
    | succ j ih =>
      intro k fuel K hk hf g1 g2 g3 g4 g5
      obtain ⟨fu, rfl⟩ : ∃ fu, fuel = fu + 1 := ⟨fuel - 1, by omega⟩
      have AK : XSk K x ps ys := A.kr g1.2.1 g1.2.2.1 g1.1
      have hs : shF k = iN (24 - 8 * k) := if_neg (by omega)
      have AK2 : XSk (m_setI K (x + 1) (n + k) (byF v k)) x ps ys := AK.kr rfl rfl rfl
      have e : f_CT_feedNumber_3 N x v (fu + 1) (shF k) K = f_CT_feedNumber_3 N x v fu (shF (k + 1)) (m_setI (m_setI K (x + 1) (n + k) (byF v k)) x 1 (iN (n + (k + 1)))) := by
        have hb : (ushr v (iN (24 - 8 * k)) &&& 255) = byF v k := rfl
        rw [← shF_s (show k < 4 by omega), f_CT_feedNumber_3, hs, hb, if_neg (iN_nn (by omega)), AK.i, ob, g4, if_neg (show ¬ (400 : Int32) ≤ iN (n + k) from iN_nle (n := 400) (by omega) (by decide)), AK.gT, ob, ob, AK.sT (by omega), ob]
        rw [AK2.i, ob, iv_ne (by omega), g4, iN_s, AK2.p, ob]
        rfl
      rw [e]
      refine ih (k + 1) fu _ (by omega) (by omega) g1 (fun b h1 h2 => by rw [iv_ne h1, iv_ne h2, g2 b h1 h2]) (fun j hj => by rw [iv_same, up1_ne hj, iv_ne (by omega), g3 j hj]) (by rw [iv_same, up1_same]) (fun i => ?_)
      rw [iv_ne (by omega), iv_same, up1_at]
      by_cases hi : i = n + k
      · rw [if_pos hi, if_pos (by omega), hi, show n + k - n = k by omega]
      · rw [if_neg hi, g5 i]
        by_cases h2 : n ≤ i ∧ i < n + k
        · rw [if_pos h2, if_pos (by omega)]
        · rw [if_neg h2, if_neg (by omega)]
  unfold f_CT_feedNumber
  exact key 4 0 N M (by decide) (by omega) ⟨rfl, rfl, rfl, rfl⟩ (fun _ _ _ => rfl) (fun _ _ => rfl) h (fun i => by rw [if_neg (by omega)])
/-- which number the k-th byte is of -/
def vsF (a b c d e : Int32) (k : Nat) : Int32 := if k < 4 then a else if k < 8 then b else if k < 12 then c else if k < 16 then d else e
theorem feed20 (hN : 40 < N) (hn : n ≤ 380) (h : r.1 8 = iN n) (a b c d e : Int32) : ∃ q, f_R_feed_23 N a b c d e N 0 r = some (iN (n + 20), q) ∧ q.1 8 = iN (n + 20) ∧ (∀ j, j ≠ 8 → q.1 j = r.1 j) ∧ (∀ j, j ≠ 7 → q.2 j = r.2 j) ∧ ∀ i, q.2 7 i = if n ≤ i ∧ i < n + 20 then byF (vsF a b c d e (i - n)) ((i - n) % 4) else r.2 7 i := by
  have key : ∀ (j k fuel : Nat) (s : Rho), k + j = 20 → j < fuel → s.1 8 = iN (n + k) → (∀ j, j ≠ 8 → s.1 j = r.1 j) → (∀ j, j ≠ 7 → s.2 j = r.2 j) → (∀ i, s.2 7 i = if n ≤ i ∧ i < n + k then byF (vsF a b c d e (i - n)) ((i - n) % 4) else r.2 7 i) →
      ∃ q, f_R_feed_23 N a b c d e fuel (iN k) s = some (iN (n + 20), q) ∧ q.1 8 = iN (n + 20) ∧ (∀ j, j ≠ 8 → q.1 j = r.1 j) ∧ (∀ j, j ≠ 7 → q.2 j = r.2 j) ∧ ∀ i, q.2 7 i = if n ≤ i ∧ i < n + 20 then byF (vsF a b c d e (i - n)) ((i - n) % 4) else r.2 7 i := by
    intro j
    induction j with
    | zero =>
      intro k fuel s hk hf g1 g2 g3 g4
      obtain ⟨fu, rfl⟩ : ∃ fu, fuel = fu + 1 := ⟨fuel - 1, by omega⟩
      obtain rfl : k = 20 := by omega
      refine ⟨s, ?_, g1, g2, g3, g4⟩
      rw [f_R_feed_23, if_pos (show (20 : Int32) ≤ iN 20 from i_le_rfl 20), g1]
    | succ j ih =>
      intro k fuel s hk hf g1 g2 g3 g4
      obtain ⟨fu, rfl⟩ : ∃ fu, fuel = fu + 1 := ⟨fuel - 1, by omega⟩
      have step : ∀ y, y = vsF a b c d e k → f_R_feed_76 N a b c d e (f_R_feed_23 N a b c d e fu) (iN k) y s = f_R_feed_23 N a b c d e fu (iN (k + 1)) (r_set (r_st s 7 (n + k) (byF (vsF a b c d e k) (k % 4))) 8 (iN (n + (k + 1)))) := by
        intro y hy
        unfold f_R_feed_76
        have e1 : (24 : Int32) - 8 * (iN k - iN k / 4 * 4) = iN (24 - 8 * (k % 4)) := by
          have h1 : iN k - iN k / 4 * 4 = iN (k % 4) := iN_mod (b := 4) (by omega) (by decide)
          have h2 : k % 4 < 4 := Nat.mod_lt _ (by decide)
          rw [h1, q8, iN_mul, show (24 : Int32) = iN 24 from rfl, iN_sub (by omega)]
        rw [e1, g1, rst7 (by omega), ob, hy, iN_s]
        show f_R_feed_23 N a b c d e fu (iN (k + 1)) (r_set (r_st s 7 (n + k) (byF (vsF a b c d e k) (k % 4))) 8 (s.1 8 + 1)) = _
        rw [g1, iN_s]
        rfl
      have est : f_R_feed_23 N a b c d e (fu + 1) (iN k) s = f_R_feed_23 N a b c d e fu (iN (k + 1)) (r_set (r_st s 7 (n + k) (byF (vsF a b c d e k) (k % 4))) 8 (iN (n + (k + 1)))) := by
        have lt : ∀ m, m ≤ 100 → k < m → ¬ iN m ≤ iN k := fun m hm h => iN_nle h (by omega)
        have ge : ∀ m, m ≤ 100 → m ≤ k → iN m ≤ iN k := fun m hm h => iN_yle h (by omega)
        rw [f_R_feed_23, if_neg (show ¬ (20 : Int32) ≤ iN k from lt 20 (by decide) (by omega))]
        by_cases h4 : k < 4
        · rw [if_neg (show ¬ (4 : Int32) ≤ iN k from lt 4 (by decide) h4)]
          exact step a (by unfold vsF; rw [if_pos h4])
        rw [if_pos (show (4 : Int32) ≤ iN k from ge 4 (by decide) (by omega))]
        by_cases h8 : k < 8
        · rw [if_neg (show ¬ (8 : Int32) ≤ iN k from lt 8 (by decide) h8)]
          exact step b (by unfold vsF; rw [if_neg h4, if_pos h8])
        rw [if_pos (show (8 : Int32) ≤ iN k from ge 8 (by decide) (by omega))]
        by_cases h12 : k < 12
        · rw [if_neg (show ¬ (12 : Int32) ≤ iN k from lt 12 (by decide) h12)]
          exact step c (by unfold vsF; rw [if_neg h4, if_neg h8, if_pos h12])
        rw [if_pos (show (12 : Int32) ≤ iN k from ge 12 (by decide) (by omega))]
        by_cases h16 : k < 16
        · rw [if_neg (show ¬ (16 : Int32) ≤ iN k from lt 16 (by decide) h16)]
          exact step d (by unfold vsF; rw [if_neg h4, if_neg h8, if_neg h12, if_pos h16])
        rw [if_pos (show (16 : Int32) ≤ iN k from ge 16 (by decide) (by omega))]
        exact step _ (by unfold vsF; rw [if_neg h4, if_neg h8, if_neg h12, if_neg h16])
      rw [est]
      refine ih (k + 1) fu _ (by omega) (by omega) (set_s _ 8 _) (fun j hj => (set_f hj).trans (g2 j hj)) (fun j hj => (st_row hj).trans (g3 j hj)) (fun i => ?_)
      show (r_st s 7 (n + k) (byF (vsF a b c d e k) (k % 4))).2 7 i = _
      rw [st_own, up1_at]
      by_cases hi : i = n + k
      · rw [if_pos hi, if_pos (by omega), hi, show n + k - n = k by omega]
      · rw [if_neg hi, g4 i]
        by_cases h2 : n ≤ i ∧ i < n + k
        · rw [if_pos h2, if_pos (by omega)]
        · rw [if_neg h2, if_neg (by omega)]
  exact key 20 0 N r (by decide) (by omega) h (fun _ _ => rfl) (fun _ _ => rfl) (fun i => by rw [if_neg (by omega)])
theorem op_feed (G : GS N x o ps ys M r) (hN : 40 < N) : ∃ v K q, f_CT_feed N x a b c d e M = some (v, K) ∧ f_R_feed N a b c d e r = some (v, q) ∧ GS N x o ps ys K q := by
  have p1 := G.2.2.2.2.1.1
  obtain ⟨n8, b8⟩ := nb_c G.2.2.2.2.1.2.1 (by decide)
  generalize hn : (r.1 8).toNatClampNeg = n at *
  by_cases h : n ≤ 380
  · have z0 : m_iv M x 1 = iN n := by rw [p1, n8]
    obtain ⟨K1, c1, k1, o1, f1, l1, t1⟩ := feed4 (N := N) G.A (by omega) (by omega) z0 a
    have A1 := G.A.kr k1.2.1 k1.2.2.1 k1.1
    obtain ⟨K2, c2, k2, o2, f2, l2, t2⟩ := feed4 (N := N) A1 (by omega) (by omega) l1 b
    have A2 := A1.kr k2.2.1 k2.2.2.1 k2.1
    obtain ⟨K3, c3, k3, o3, f3, l3, t3⟩ := feed4 (N := N) A2 (by omega) (by omega) l2 c
    have A3 := A2.kr k3.2.1 k3.2.2.1 k3.1
    obtain ⟨K4, c4, k4, o4, f4, l4, t4⟩ := feed4 (N := N) A3 (by omega) (by omega) l3 d
    have A4 := A3.kr k4.2.1 k4.2.2.1 k4.1
    obtain ⟨K5, c5, k5, o5, f5, l5, t5⟩ := feed4 (N := N) A4 (by omega) (by omega) l4 e
    have A5 := A4.kr k5.2.1 k5.2.2.1 k5.1
    obtain ⟨q, m1, q8, qf, qr, q7⟩ := feed20 (N := N) (r := r_set r 0 0) hN h ((set_f (by decide)).trans n8) a b c d e
    refine ⟨iN (n + 20), K5, q, ?_, ?_, ?_⟩
    · unfold f_CT_feed
      rw [G.A.i, ob, z0, if_pos (show iN n ≤ 380 from iN_yle (n := n) (k := 380) h (by decide)), G.A.c, ob, c1, ob, A1.c, ob, c2, ob, A2.c, ob, c3, ob, A3.c, ob, c4, ob, A4.c, ob, c5, ob, A5.i, ob, l5]
    · unfold f_R_feed
      rw [set_f (by decide), n8, show iN n + 20 = iN (n + 20) from iN_add n 20, if_pos (show iN (n + 20) ≤ 400 from iN_yle (n := n + 20) (k := 400) (by omega) (by decide)), m1]
    · refine G.tape (n := n + 20) (kk_trans (kk_trans (kk_trans (kk_trans k1 k2) k3) k4) k5) (fun b h1 h2 => by rw [o5 b h1 h2, o4 b h1 h2, o3 b h1 h2, o2 b h1 h2, o1 b h1 h2]) (fun j hj => by rw [f5 j hj, f4 j hj, f3 j hj, f2 j hj, f1 j hj]) l5 (by omega) (fun i hi => ?_) q8 ⟨qr 1 (by decide), qr 2 (by decide), qr 5 (by decide), (qf 3 (by decide)).trans rfl, (qf 6 (by decide)).trans rfl, (qf 12 (by decide)).trans rfl, fun z => by
        unfold Bz
        rw [qf 15 (by decide), qf 16 (by decide)]
        exact z⟩
      have ti : m_iv M (x + 1) i = r.2 7 i := G.2.2.2.2.1.2.2 i hi
      rw [q7 i, t5 i, t4 i, t3 i, t2 i, t1 i, ti]
      unfold vsF
      by_cases hr : n ≤ i ∧ i < n + 20
      · rw [if_pos hr]
        by_cases h16 : i < n + 16
        · rw [if_neg (by omega)]
          by_cases h12 : i < n + 12
          · rw [if_neg (by omega)]
            by_cases h8 : i < n + 8
            · rw [if_neg (by omega)]
              by_cases h4 : i < n + 4
              · rw [if_neg (by omega), if_pos (by omega), if_pos (by omega), show (i - n) % 4 = i - n by omega]
              · rw [if_pos (by omega), if_neg (by omega), if_pos (by omega), show (i - n) % 4 = i - (n + 4) by omega]
            · rw [if_pos (by omega), if_neg (by omega), if_neg (by omega), if_pos (by omega), show (i - n) % 4 = i - (n + 4 + 4) by omega]
          · rw [if_pos (by omega), if_neg (by omega), if_neg (by omega), if_neg (by omega), if_pos (by omega), show (i - n) % 4 = i - (n + 4 + 4 + 4) by omega]
        · rw [if_pos (by omega), if_neg (by omega), if_neg (by omega), if_neg (by omega), if_neg (by omega), show (i - n) % 4 = i - (n + 4 + 4 + 4 + 4) by omega]
      · rw [if_neg hr, if_neg (by omega), if_neg (by omega), if_neg (by omega), if_neg (by omega), if_neg (by omega)]
        rfl
  · refine ⟨-1, M, r_set r 0 0, ?_, ?_, G.th 0⟩
    · unfold f_CT_feed
      rw [G.A.i, ob, p1, n8, if_neg (show ¬ iN n ≤ 380 from iN_nle (n := n) (k := 380) (by omega) (by omega))]
    · unfold f_R_feed
      rw [set_f (by decide), n8, show iN n + 20 = iN (n + 20) from iN_add n 20, if_neg (show ¬ iN (n + 20) ≤ 400 from iN_nle (n := n + 20) (k := 400) (by omega) (by omega))]
end Ta
