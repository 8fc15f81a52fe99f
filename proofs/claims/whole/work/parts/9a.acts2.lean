section Ot
variable {N x o : Nat} {ps ys : Nat → Nat} {M K : Mem} {r q : Rho} {a b c : Int32} {m2 : Nat → Int32}
/-- the town has changed, all else is as it was -/
theorem GS.town (G : GS N x o ps ys M r) (F : Fr (x + 2) 41 (x + 628) M K) (R : TRel K (x + 2) m2) (I : Inv m2) (h1 : m2 1 = r.2 1 1) (h2 : m2 2 = r.2 1 2) (h9 : ∀ k, 900 ≤ k → m2 k = r.2 1 k) (hq : S0 (setM r m2) q) : GS N x o ps ys K q := by
  obtain ⟨A, ⟨k1, k2, k3, k4⟩, T, ⟨g1, g2, lw, g3, g4⟩, ⟨p1, p2, p3⟩, f, ⟨i1, i2⟩, ⟨a1, a2, a3⟩⟩ := G
  obtain ⟨⟨e1, e2, e5, e7⟩, f3, f6, f8, f12⟩ := hq
  have e1 : q.2 1 = m2 := e1
  have e2 : q.2 2 = r.2 2 := e2
  have e5 : q.2 5 = r.2 5 := e5
  have e7 : q.2 7 = r.2 7 := e7
  have f3 : q.1 3 = r.1 3 := f3
  have f6 : q.1 6 = r.1 6 := f6
  have f8 : q.1 8 = r.1 8 := f8
  have f12 : q.1 12 = r.1 12 ∧ (Bz r → Bz q) := f12
  have hx : ∀ b, b < x + 2 → m_iv K b = m_iv M b := fun b hb => F.2.1 b (by omega) (by omega)
  refine ⟨A.kr F.1.2.1 F.1.2.2.1 F.1.1, ⟨by rw [F.1.2.1]; exact k1, k2, by rw [F.1.1]; exact k3, fun b hb => by rw [F.1.2.1]; exact k4 b (by rw [← F.1.1]; exact hb)⟩, fun g hg => ?_, ?_, ?_, ?_, ⟨?_, ?_⟩, ⟨?_, ?_, fun k hk => ?_⟩⟩
  · rw [F.2.1 _ (by omega) (by omega)]; exact T g hg
  · rw [e1]
    exact ⟨I, R, lw, by rw [h1]; exact F.wRel g3, g4.cg h1 h2 fun k _ => h9 _ (by omega)⟩
  · refine ⟨?_, by rw [f8]; exact p2, fun k hk => ?_⟩
    · rw [hx x (by omega), f8]; exact p1
    · rw [hx _ (by omega), e7]; exact p3 k hk
  · exact ⟨by rw [hx x (by omega), f12.1]; exact f.1, f12.2 f.2⟩
  · rw [hx x (by omega), f3]; exact i1
  · rw [f3, e2]
    exact i2.imp id fun w => ⟨w.1, w.2.fr F (by omega) (by omega)⟩
  · rw [hx x (by omega), f6]; exact a1
  · rw [f6]; exact a2
  · rw [f6] at hk
    have hp := A.pl (i := k) (by have := (nb_c a2 (by decide)).2; omega)
    have ea : acM q k = acM r k := by
      funext j
      unfold acM
      rw [e1, e5]
      by_cases hj : j < 900
      · rw [if_pos hj, if_pos hj]
      · rw [if_neg hj, if_neg hj, h9 j (by omega)]
    rw [ea]
    exact (a3 k hk).fr F (by omega) (by omega)
theorem GS.lo (G : GS N x o ps ys M r) (F : Fr (x + 2) 41 (x + 628) M K) (R : TRel K (x + 2) m2) (I : Inv m2) (h : Lo (r.2 1) m2) (hq : S0 (setM r m2) q) : GS N x o ps ys K q :=
  G.town F R I (h 1 (by omega)) (h 2 (by omega)) (fun k hk => h k (by omega)) hq
theorem op_will (G : GS N x o ps ys M r) (hN : 20000 ≤ N) : Both N x o (f_L_will N x a b o M) (f_R_will N a b r) := by
  have h5 := G.I.b5
  by_cases h : okT (r.2 1) a b
  · obtain ⟨p, q, hp, hq, hpq, rfl, rfl⟩ := h
    obtain ⟨e1, e2⟩ := two_ok G hp hq hpq
    obtain ⟨g1, g2, lw, g3, g4⟩ := G.nw
    obtain ⟨K, c1, F⟩ := f_Town_greetingFor_eq (N := N) G.S G.I G.R g3 (by omega) (by omega) hp hq
    obtain ⟨q2, m1, s1⟩ := f_R_beginning_eq (r := r_set r 0 0) (N := N) (lw := lw) g4 (show p < 10 by omega) (show q < 10 by omega) (G.I.p hp).2.1 (G.I.p hq).2.1
    have s2 := s1.s0
    have G2 : GS N x o ps ys K q2 := G.town F.none (F.tRel0 G.R (by omega)) G.I rfl rfl (fun _ _ => rfl) (by rw [setM_id]; exact (S0.thr r 0).trans s2)
    refine both_ok (v := bgM lw (r.2 1) p q) G2 (s1.1.2.1.trans (th0 r 0)) ?_ ?_
    · unfold f_L_will f_CT_will
      rw [G.A.c, ob, ob, e1, ob, sx_l, G.A.gN, ob, G.S.c0, ob, c1, ob, ob, sx_l]
      rfl
    · unfold f_R_will
      rw [e2, ob, th0, if_pos i00, m1, ob]
      rfl
  · rcases two_ex G h with ⟨e1, e2⟩ | ⟨e1, e2⟩
    · refine both_ex (c := 1) (v := 0) (G.new.th 1) i1n (th0 r 1) ?_ ?_
      · unfold f_L_will f_CT_will
        rw [G.A.c, ob, ob, e1, ob, sx_r, ob, sx_r, if_pos rfl]
      · unfold f_R_will
        rw [e2, ob, th0, if_neg i10]
    · refine both_ex (c := 2) (v := 0) (G.new.th 2) (by decide) (th0 r 2) ?_ ?_
      · unfold f_L_will f_CT_will
        rw [G.A.c, ob, ob, e1, ob, sx_r, ob, sx_r, if_neg (by decide), if_pos rfl]
      · unfold f_R_will
        rw [e2, ob, th0, if_neg i20]
theorem op_meet (G : GS N x o ps ys M r) (hN : 20000 ≤ N) : Both N x o (f_L_meet N x a b o M) (f_R_meet N a b r) := by
  have h5 := G.I.b5
  by_cases h : okT (r.2 1) a b
  · obtain ⟨p, q, hp, hq, hpq, rfl, rfl⟩ := h
    obtain ⟨e1, e2⟩ := two_ok G hp hq hpq
    obtain ⟨K1, q1, ps2, c1, m1, G1, em, et⟩ := remember (G.th 0) hN
    have em : q1.2 1 = r.2 1 := em
    obtain ⟨g1, g2, lw, g3, g4⟩ := G1.nw
    have hxy : min p q < max p q := by omega
    have hy : max p q < cn (q1.2 1) 5 := by rw [em]; omega
    have hab : (p = min p q ∧ q = max p q) ∨ (p = max p q ∧ q = min p q) := by omega
    obtain ⟨K2, c2, F, R⟩ := f_Town_meetOnce_eq (N := N) G1.S G1.I G1.R g3 (by omega) (by omega) hxy hy hab
    obtain ⟨q2, m2, s2⟩ := f_R_meeting_eq (N := N) G1.I g4 (by omega) hxy hy hab
    have hl := g3.ok
    have G2 : GS N x o ps2 ys K2 q2 := G1.lo F R (meM_inv G1.I hl hxy hy) (meM_lo (by omega) (by omega)) s2.s0
    refine both_ok (v := (meM lw (q1.2 1) (min p q) (max p q)).1) G2 ((s2.1.2.1.trans et).trans (th0 r 0)) ?_ ?_
    · unfold f_L_meet f_CT_meet
      rw [G.A.c, ob, ob, e1, ob, sx_l, G.A.c, ob, c1, ob, G1.A.gN, ob, G1.S.c0, ob, c2, ob, ob, sx_l]
      rfl
    · unfold f_R_meet
      rw [e2, ob, th0, if_pos i00, m1, ob, m2, ob]
  · rcases two_ex G h with ⟨e1, e2⟩ | ⟨e1, e2⟩
    · refine both_ex (c := 1) (v := 0) (G.new.th 1) i1n (th0 r 1) ?_ ?_
      · unfold f_L_meet f_CT_meet
        rw [G.A.c, ob, ob, e1, ob, sx_r, ob, sx_r, if_pos rfl]
      · unfold f_R_meet
        rw [e2, ob, th0, if_neg i10]
    · refine both_ex (c := 2) (v := 0) (G.new.th 2) (by decide) (th0 r 2) ?_ ?_
      · unfold f_L_meet f_CT_meet
        rw [G.A.c, ob, ob, e1, ob, sx_r, ob, sx_r, if_neg (by decide), if_pos rfl]
      · unfold f_R_meet
        rw [e2, ob, th0, if_neg i20]
/-! numbers from lo to hi -/
def okI (a : Int32) (lo hi : Nat) : Prop := ∃ n, lo ≤ n ∧ n ≤ hi ∧ a = iN n
theorem okI_no {lo hi : Nat} (h : ¬ okI a lo hi) (hh : hi ≤ 1000) (hl : lo ≤ 1000) : a < iN lo ∨ iN hi < a := by
  by_cases h1 : a < iN lo
  · exact Or.inl h1
  · right
    have h2 := Int32.not_lt.mp h1
    obtain ⟨e1, e2⟩ := iN_of (Int32.le_trans (show (0 : Int32) ≤ iN lo from Int32.not_lt.mp (iN_nn (by omega))) h2)
    refine Int32.not_le.mp fun h3 => h ⟨_, ?_, ?_, e1⟩
    · rw [e1] at h2
      exact (iN_le (by omega) e2).mp h2
    · rw [e1] at h3
      exact (iN_le e2 (by omega)).mp h3
theorem isInI_y {lo hi n : Nat} (h1 : lo ≤ n) (h2 : n ≤ hi) (hh : hi ≤ 1000) : f_R_isIn (iN n) (iN lo) (iN hi) = some 1 := by
  unfold f_R_isIn
  rw [if_neg (iN_nlt h1 (by omega)), if_neg (iN_nlt h2 (by omega))]
theorem isInI_n {lo hi : Nat} (h : ¬ okI a lo hi) (hh : hi ≤ 1000) (hl : lo ≤ 1000) : f_R_isIn a (iN lo) (iN hi) = some 0 := by
  unfold f_R_isIn
  rcases okI_no h hh hl with h1 | h1
  · rw [if_pos h1]
  · by_cases h2 : a < iN lo
    · rw [if_pos h2]
    · rw [if_neg h2, if_pos h1]
theorem needN_y {lo hi n : Nat} (h1 : lo ≤ n) (h2 : n ≤ hi) (hh : hi ≤ 1000) : f_CT_needNumber (iN n) (iN lo) (iN hi) M = some (.inl (), M) := by
  unfold f_CT_needNumber
  rw [if_neg (iN_nlt h1 (by omega)), if_pos (iN_yle h2 (by omega))]
theorem needN_n {lo hi : Nat} (h : ¬ okI a lo hi) (hh : hi ≤ 1000) (hl : lo ≤ 1000) : f_CT_needNumber a (iN lo) (iN hi) M = some (.inr "java/lang/IllegalArgumentException", m_new M (0, 0)) := by
  unfold f_CT_needNumber f_CT_needNumber_10
  rcases okI_no h hh hl with h1 | h1
  · rw [if_pos h1]
  · by_cases h2 : a < iN lo
    · rw [if_pos h2]
    · rw [if_neg h2, if_neg (Int32.not_le.mpr h1)]
theorem op_rounds (G : GS N x o ps ys M r) (hN : 20000 ≤ N) : Both N x o (f_L_rounds N x a o M) (f_R_rounds N a r) := by
  by_cases h : okI a 1 50
  · obtain ⟨n, h1, h2, rfl⟩ := h
    have e1 : f_CT_needNumber (iN n) 1 50 M = some (.inl (), M) := needN_y h1 h2 (by decide)
    have e2 : f_R_isIn (iN n) 1 50 = some 1 := isInI_y h1 h2 (by decide)
    obtain ⟨K1, q1, ps2, c1, m1, G1, em, et⟩ := remember (G.th 0) hN
    obtain ⟨g1, g2, lw, g3, g4⟩ := G1.nw
    have hl := g3.ok
    obtain ⟨K2, c2, F, R, I2, L2⟩ := f_Town_passRounds_eq (N := N) (n := n) G1.S G1.I G1.R g3 (by omega) (by omega) (by omega)
    obtain ⟨q2, m2, s2⟩ := f_R_goes_eq (N := N) (n := n) G1.I g4 hl (by omega) (by omega)
    have G2 : GS N x o ps2 ys K2 q2 := G1.lo F R I2 L2 s2.s0
    refine both_ok (v := (goM lw n (0, q1.2 1)).1) G2 ((s2.1.2.1.trans et).trans (th0 r 0)) ?_ ?_
    · unfold f_L_rounds f_CT_rounds
      rw [G.A.c, ob, e1, ob, sx_l, G.A.c, ob, c1, ob, G1.A.gN, ob, G1.S.c0, ob, c2, ob, ob, sx_l]
      rfl
    · unfold f_R_rounds f_R_rounds_16
      rw [e2, ob, if_neg i1n, th0, if_pos i00, m1, ob, m2, ob]
  · have e1 : f_CT_needNumber a 1 50 M = some (.inr "java/lang/IllegalArgumentException", m_new M (0, 0)) := needN_n h (by decide) (by decide)
    have e2 : f_R_isIn a 1 50 = some 0 := isInI_n h (by decide) (by decide)
    refine both_ex (c := 1) (v := 0) (G.new.th 1) i1n (th0 r 1) ?_ ?_
    · unfold f_L_rounds f_CT_rounds
      rw [G.A.c, ob, e1, ob, sx_r, ob, sx_r, if_pos rfl]
    · unfold f_R_rounds f_R_rounds_16
      rw [e2, ob, if_pos rfl, th0, if_neg i10]
end Ot
