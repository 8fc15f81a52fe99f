section Tl
variable {N x o t B n p k : Nat} {ps ys zs : Nat → Nat} {M K L : Mem} {r q : Rho} {fr ow pr : Nat → Int32} {a b g : Int32} {m m2 m0 : Nat → Int32} {lw : (Nat → Int32) → Int32}
/-- what is asked of a trial -/
def trV (lw : (Nat → Int32) → Int32) (n : Nat) (m : Nat → Int32) (b : Int32) : Int32 :=
  if b = 0 then (goM lw n (0, m)).1 else if b = 1 then (goM lw n (0, m)).2 10 - m 10 else if b = 2 then iN (kdN (owS (goM lw n (0, m)).2 0 0) (cn (goM lw n (0, m)).2 5)) else cdS (goM lw n (0, m)).2
theorem Yq.sr {s : Rho} (h : Sr s q) (k : Yq q r) : Sr s r := by
  obtain ⟨⟨⟨e1, e2, e4, e5, e7⟩, f0, f3, f6, f8, fz⟩, f12⟩ := h
  refine ⟨⟨⟨(k.2 1 (by decide) (by decide) (by decide) (by decide)).trans e1, (k.2 2 (by decide) (by decide) (by decide) (by decide)).trans e2, (k.2 4 (by decide) (by decide) (by decide) (by decide)).trans e4, (k.2 5 (by decide) (by decide) (by decide) (by decide)).trans e5, (k.2 7 (by decide) (by decide) (by decide) (by decide)).trans e7⟩, ?_, ?_, ?_, ?_, fun z => ?_⟩, ?_⟩
  · rw [k.1]; exact f0
  · rw [k.1]; exact f3
  · rw [k.1]; exact f6
  · rw [k.1]; exact f8
  · have := fz z
    unfold Bz at this ⊢
    rw [k.1]; exact this
  · rw [k.1]; exact f12
theorem triesW (I : Inv (r.2 1)) (Kd : RdOK N (r.2 1) lw) (hl : LwOK lw) (hN : 20000 ≤ N) (hn : n ≤ 100) (h4 : Asd m0 r) (h9 : ∀ k, 900 ≤ k → r.2 1 k = m0 k) (b : Int32) : ∃ q, f_R_tries N (iN n) b r = some (trV lw n (r.2 1) b, q) ∧ S0 (setM r m0) q ∧ q.1 0 = r.1 0 := by
  obtain ⟨q1, h1, s1⟩ := f_R_goes_eq (N := N) (n := n) I Kd hl (by omega) hn
  have I2 := (goM_lo (n := n) I hl).1
  have h92 : ∀ k, 900 ≤ k → (goM lw n (0, r.2 1)).2 k = m0 k := fun k hk => ((goM_lo (n := n) I hl).2 k (by omega)).trans (h9 k hk)
  have em : q1.2 1 = (goM lw n (0, r.2 1)).2 := s1.1.1.1
  have bk : ∀ q, Sr (setM r (goM lw n (0, r.2 1)).2) q → ∀ v, ∃ s, f_R_tries_64 N (iN n) b v q = some (v, s) ∧ S0 (setM r m0) s ∧ s.1 0 = r.1 0 := fun q hq v => by
    obtain ⟨b1, -, b3⟩ := back_S0 (m0 := m0) hq h92 h4
    refine ⟨_, ?_, b1, b3⟩
    unfold f_R_tries_64
    rw [back_eq hN, ob]
  unfold f_R_tries trV
  rw [rlm10, ob, h1, ob]
  dsimp only
  by_cases c0 : b = 0
  · rw [if_pos c0, if_pos c0]
    unfold f_R_tries_45
    rw [if_neg (by rw [c0]; decide)]
    exact bk q1 s1 _
  · rw [if_neg c0, if_neg c0]
    by_cases c1 : b = 1
    · rw [if_pos c1, if_pos c1, rlm10, ob, em]
      unfold f_R_tries_45
      rw [if_neg (by rw [c1]; decide)]
      exact bk q1 s1 _
    · rw [if_neg c1, if_neg c1, f_R_coldsNow_eq (r := q1) (by rw [em]; exact I2) (by omega), ob, em]
      unfold f_R_tries_45
      by_cases c2 : b = 2
      · rw [if_pos c2, if_pos c2]
        obtain ⟨q2, m2, s2, Z2⟩ := starts_md (r := q1) (N := N) (by rw [em]; exact I2) (by omega) 0 0
        have em2 : q2.2 1 = (goM lw n (0, r.2 1)).2 := s2.em.trans em
        rw [em] at Z2
        obtain ⟨q3, m3, s3, -⟩ := counts_md (r := q2) (N := N) (fr := frM (goM lw n (0, r.2 1)).2) (ow := owS (goM lw n (0, r.2 1)).2 0 0) (by rw [em2]; exact I2) (by omega) (by rw [em2]; exact Z2) (by rw [em2]; exact nx_00 I2)
        rw [em2] at m3
        rw [m2, ob, m3, ob]
        exact bk q3 ((s2.trans s3.y).sr s1) _
      · rw [if_neg c2, if_neg c2]
        exact bk q1 s1 _
theorem trial_43 (hN : 20000 ≤ N) : f_R_trial_43 N a b N 0 r = (f_R_tries N a b (cpR 1 0 4 0 900 r)).bind fun z3 => some (z3.1, z3.2) := by
  refine (run_cp (F := fun fuel k z => f_R_trial_43 N a b fuel (iN k) z) (fin := fun z => (f_R_tries N a b z).bind fun z3 => some (z3.1, z3.2)) (n := 900) (a := 1) (oa := 0) (b := 4) (ob := 0) (Or.inl (by decide)) (fun fuel z _ => ?_) (fun fuel k z hk _ => ?_) (by omega))
  · show f_R_trial_43 N a b (fuel + 1) (iN 900) z = _
    rw [f_R_trial_43, if_pos (show (900 : Int32) ≤ iN 900 from i_le_rfl 900)]
  · show f_R_trial_43 N a b (fuel + 1) (iN k) z = _
    rw [f_R_trial_43, if_neg (show ¬ (900 : Int32) ≤ iN k from iN_nle (n := 900) hk (by decide)), rld1 (by omega), ob, rst4 hk, ob, iN_s, Nat.zero_add]
theorem isIn03 (h : okR a 4) : f_R_isIn a 0 3 = some 1 := isIn_y (n := 4) h (by decide)
theorem isIn03n (h : ¬ okR a 4) : f_R_isIn a 0 3 = some 0 := isIn_n (n := 4) h (by decide)
theorem op_trial (G : GS N x o ps ys M r) (hN : 20000 ≤ N) : Both N x o (f_L_trial N x a b o M) (f_R_trial N a b r) := by
  have h5 := G.I.b5
  by_cases h : okI a 0 20
  · obtain ⟨n, -, h3, rfl⟩ := h
    by_cases h2 : okR b 4
    · obtain ⟨K1, c1, G1, ⟨g1, g2, lw, g3, g4⟩⟩ := G.draft (by omega)
      have hl := g3.ok
      have SD : Shape K1 (x + 85) := G1.A.td
      obtain ⟨K3, c3, F3, R3, I3, -⟩ := f_Town_passRounds_eq (N := N) (n := n) SD g1 g2 g3 (by omega) (by omega) (by omega)
      have G3 := G1.frD F3
      have S3 : Shape K3 (x + 85) := G3.A.td
      obtain ⟨s0, a0⟩ := aside_S0 (r := r_set r 0 0)
      have e1 : (cpR 1 0 4 0 900 (r_set r 0 0)).2 1 = r.2 1 := s0.1.1
      obtain ⟨q, m1, s1, z1⟩ := triesW (r := cpR 1 0 4 0 900 (r_set r 0 0)) (m0 := r.2 1) (N := N) (n := n) (lw := lw) (by rw [e1]; exact g1) (by rw [e1]; exact g4) hl hN (by omega) a0 (fun k _ => by rw [e1]) b
      rw [e1] at m1
      have s2 : S0 r q := by
        have hs : setM (cpR 1 0 4 0 900 (r_set r 0 0)) (r.2 1) = cpR 1 0 4 0 900 (r_set r 0 0) := by rw [← e1, setM_id]
        rw [hs] at s1
        exact (S0.thr r 0).trans (s0.trans s1)
      obtain ⟨K4, c4, G4, Y4, -⟩ := startFrom_cl (N := N) G3 S3 I3 R3 (by omega) (by omega)
      have kd := kinds_cl (N := N) G4.A Y4 (by omega) I3.b5 (nx_00 I3)
      have md : f_R_trial N (iN n) b r = some (trV lw n (r.2 1) b, q) := by
        unfold f_R_trial f_R_trial_29
        rw [show f_R_isIn (iN n) 0 20 = some 1 from isInI_y (lo := 0) (hi := 20) (by omega) h3 (by decide), ob, if_neg i1n, isIn03 h2, ob, if_neg i1n, th0, if_pos i00, trial_43 hN, m1, ob]
      have cl : ∀ v K, (if b = 0 then some (Sum.inl (goM lw n (0, r.2 1)).1, K3) else if b = 1 then some (Sum.inl ((goM lw n (0, r.2 1)).2 10 - r.2 1 10), K3) else if b = 2 then some (Sum.inl (iN (kdN (owS (goM lw n (0, r.2 1)).2 0 0) (cn (goM lw n (0, r.2 1)).2 5))), K4) else some (Sum.inl (cdS (goM lw n (0, r.2 1)).2), K3)) = some ((Sum.inl v : Int32 ⊕ String), K) → f_L_trial N x (iN n) b o M = lsO o v K := fun v K hv => by
        unfold f_L_trial f_CT_trial
        rw [G.A.c, ob, show f_CT_needNumber (iN n) 0 20 M = some (.inl (), M) from needN_y (lo := 0) (hi := 20) (by omega) h3 (by decide), ob, sx_l, show f_CT_needWhat b 3 M = some (.inl (), M) from needW_y 3 (by decide) h2, ob, sx_l, G.A.gD, ob, G.A.gN, ob, G.A.td.c0, ob, c1, ob, G1.A.gD, ob, SD.c0, ob, c3, ob]
        simp only [G3.A.gD, G3.A.gN, G3.A.gY, ob, S3.i0, G3.S.i0, R3.v10, G3.R.v10, G3.A.yc, S3.c0, c4, G4.A.gY, G4.A.yc, kd, f_Town_peopleWithCold_eq S3 I3 R3 (show 40 < N by omega)]
        rw [hv, ob, sx_l]
        rfl
      have key : ∀ K, GS N x o ps ys K r → (if b = 0 then some (Sum.inl (goM lw n (0, r.2 1)).1, K3) else if b = 1 then some (Sum.inl ((goM lw n (0, r.2 1)).2 10 - r.2 1 10), K3) else if b = 2 then some (Sum.inl (iN (kdN (owS (goM lw n (0, r.2 1)).2 0 0) (cn (goM lw n (0, r.2 1)).2 5))), K4) else some (Sum.inl (cdS (goM lw n (0, r.2 1)).2), K3)) = some ((Sum.inl (trV lw n (r.2 1) b) : Int32 ⊕ String), K) → Both N x o (f_L_trial N x (iN n) b o M) (f_R_trial N (iN n) b r) := fun K GK hv =>
        both_ok (v := trV lw n (r.2 1) b) (GK.s0 s2) (z1.trans (th0 r 0)) (cl _ _ hv) md
      unfold trV at key
      by_cases b0 : b = 0
      · exact key K3 G3 (by rw [if_pos b0, if_pos b0])
      · by_cases b1 : b = 1
        · exact key K3 G3 (by rw [if_neg b0, if_neg b0, if_pos b1, if_pos b1])
        · by_cases b2 : b = 2
          · exact key K4 G4 (by rw [if_neg b0, if_neg b0, if_neg b1, if_neg b1, if_pos b2, if_pos b2])
          · exact key K3 G3 (by rw [if_neg b0, if_neg b0, if_neg b1, if_neg b1, if_neg b2, if_neg b2])
    · refine both_ex (c := 2) (v := 0) (G.new.th 2) (by decide) (th0 r 2) ?_ ?_
      · unfold f_L_trial f_CT_trial
        rw [G.A.c, ob, show f_CT_needNumber (iN n) 0 20 M = some (.inl (), M) from needN_y (lo := 0) (hi := 20) (by omega) h3 (by decide), ob, sx_l, show f_CT_needWhat b 3 M = some (.inr "java/util/NoSuchElementException", m_new M (0, 0)) from needW_n 3 (by decide) h2, ob, sx_r, ob, sx_r, if_neg (by decide), if_pos rfl]
      · unfold f_R_trial f_R_trial_29
        rw [show f_R_isIn (iN n) 0 20 = some 1 from isInI_y (lo := 0) (hi := 20) (by omega) h3 (by decide), ob, if_neg i1n, isIn03n h2, ob, if_pos rfl, th0, if_neg i20]
  · refine both_ex (c := 1) (v := 0) (G.new.th 1) i1n (th0 r 1) ?_ ?_
    · unfold f_L_trial f_CT_trial
      rw [G.A.c, ob, show f_CT_needNumber a 0 20 M = some (.inr "java/lang/IllegalArgumentException", m_new M (0, 0)) from needN_n (lo := 0) (hi := 20) h (by decide) (by decide), ob, sx_r, ob, sx_r, if_pos rfl]
    · unfold f_R_trial f_R_trial_29
      rw [show f_R_isIn a 0 20 = some 0 from isInI_n (lo := 0) (hi := 20) h (by decide) (by decide), ob, if_pos rfl, th0, if_neg i10]
end Tl
