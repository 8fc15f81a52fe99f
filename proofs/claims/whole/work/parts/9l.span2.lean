section Sq
variable {N x o t B : Nat} {ps ys : Nat → Nat} {M K L : Mem} {r q : Rho} {a b d e v g l gx gy : Int32} {n p s c k y : Nat} {m m2 m0 : Nat → Int32} {lw : (Nat → Int32) → Int32} {D : Nat → Nat → Prop}
theorem back_eq (hN : 20000 ≤ N) : f_R_comesBack N r = some (cpR 4 0 1 0 900 r) := by
  unfold f_R_comesBack
  refine (run_cp (F := fun fuel k z => f_R_comesBack_2 N fuel (iN k) z) (fin := fun z => some z) (n := 900) (a := 4) (oa := 0) (b := 1) (ob := 0) (Or.inl (by decide)) (fun fuel z _ => ?_) (fun fuel k z hk _ => ?_) (by omega))
  · show f_R_comesBack_2 N (fuel + 1) (iN 900) z = _
    rw [f_R_comesBack_2, if_pos (show (900 : Int32) ≤ iN 900 from i_le_rfl 900)]
  · show f_R_comesBack_2 N (fuel + 1) (iN k) z = _
    rw [f_R_comesBack_2, if_neg (show ¬ (900 : Int32) ≤ iN k from iN_nle (n := 900) hk (by decide)), rld4 hk, ob, rst1 (by omega), ob, iN_s, Nat.zero_add]
/-- the row is put aside, and the same is there still -/
def Asd (m0 : Nat → Int32) (q : Rho) : Prop := ∀ i, i < 900 → q.2 4 i = m0 i
theorem back_S0 (h : Sr (setM r m2) q) (h9 : ∀ k, 900 ≤ k → m2 k = m0 k) (h4 : Asd m0 r) : S0 (setM r m0) (cpR 4 0 1 0 900 q) ∧ Asd m0 (cpR 4 0 1 0 900 q) ∧ (cpR 4 0 1 0 900 q).1 0 = r.1 0 := by
  obtain ⟨⟨⟨e1, e2, e4, e5, e7⟩, f0, f3, f6, f8, fz⟩, f12⟩ := h
  have e1 : q.2 1 = m2 := e1
  have e2 : q.2 2 = r.2 2 := e2
  have e4 : q.2 4 = r.2 4 := e4
  have e5 : q.2 5 = r.2 5 := e5
  have e7 : q.2 7 = r.2 7 := e7
  refine ⟨⟨⟨?_, (cpR_ne (by decide)).trans e2, (cpR_ne (by decide)).trans e5, (cpR_ne (by decide)).trans e7⟩, f3, f6, f8, f12, fz⟩, fun i hi => ?_, f0⟩
  · show (cpR 4 0 1 0 900 q).2 1 = m0
    funext i
    rw [cpR_own]
    by_cases hi : 0 ≤ i ∧ i < 0 + 900
    · rw [if_pos hi, e4, Nat.zero_add, Nat.sub_zero]
      exact h4 i (by omega)
    · rw [if_neg hi, e1]
      exact h9 i (by omega)
  · rw [show (cpR 4 0 1 0 900 q).2 4 = q.2 4 from cpR_ne (by decide), e4]
    exact h4 i hi
theorem goM_lo (I : Inv m) (hl : LwOK lw) : Inv (goM lw n (0, m)).2 ∧ Lo m (goM lw n (0, m)).2 := by
  have key : ∀ (j k : Nat) (c : Int32) (m : Nat → Int32), Inv m → Inv (lp (fun _ z => rndM lw z) j k (c, m)).2 ∧ Lo m (lp (fun _ z => rndM lw z) j k (c, m)).2 := by
    intro j
    induction j with
    | zero => intro k c m I; exact ⟨I, Lo.refl m⟩
    | succ j ih =>
      intro k c m I
      obtain ⟨i1, i2⟩ := rndM_inv (lw := lw) I hl c
      obtain ⟨i3, i4⟩ := ih (k + 1) (rndM lw (c, m)).1 (rndM lw (c, m)).2 i1
      exact ⟨i3, i2.trans i4⟩
  exact key n 0 0 m I
/-- rounds on trial, the cost alone -/
theorem tries0 (I : Inv (r.2 1)) (Kd : RdOK N (r.2 1) lw) (hl : LwOK lw) (hN : 20000 ≤ N) (hn : n ≤ 100) (h4 : Asd m0 r) (h9 : ∀ k, 900 ≤ k → r.2 1 k = m0 k) : ∃ q, f_R_tries N (iN n) 0 r = some ((goM lw n (0, r.2 1)).1, q) ∧ S0 (setM r m0) q ∧ Asd m0 q ∧ q.1 0 = r.1 0 := by
  obtain ⟨q1, h1, s1⟩ := f_R_goes_eq (N := N) (n := n) I Kd hl (by omega) hn
  obtain ⟨b1, b2, b3⟩ := back_S0 (m0 := m0) s1 (fun k hk => ((goM_lo (n := n) I hl).2 k (by omega)).trans (h9 k hk)) h4
  refine ⟨_, ?_, b1, b2, b3⟩
  unfold f_R_tries f_R_tries_45 f_R_tries_64
  rw [rlm10, ob, h1, ob, if_pos rfl, if_neg (by decide), back_eq hN, ob]
/-- least and greatest so far on one side, what was asked on the other -/
def spR (a : Int32) (k : Nat) (mn mx v : Int32) : Prop := (k = 1 ∧ mn = 1000000000 ∧ mx = 0 ∧ v = -1) ∨ (1 < k ∧ nb mn 960000 ∧ nb mx 960000 ∧ v = if a = 0 then mn else mx)
theorem span_key (I : Inv (r.2 1)) (hN : 20000 ≤ N) (hn : n ≤ 20) : ∀ (j k fuel f2 : Nat) (mn mx v : Int32) (K : Mem) (q : Rho), k + j = 7 → j < fuel → j < f2 → GS N x o ps ys K r → S0 r q → Asd (r.2 1) q → q.1 0 = 0 → spR a k mn mx v →
    ∃ w K2 q2, f_CT_span_17 N x (iN n) a fuel mn mx (iN k) K = some (.inl w, K2) ∧ f_R_span_60 N (iN n) a f2 v (iN k) q = some (w, q2) ∧ GS N x o ps ys K2 r ∧ S0 r q2 ∧ q2.1 0 = 0 := by
  intro j
  induction j with
  | zero =>
    intro k fuel f2 mn mx v K q hk hf hf2 G s h4 h0 hv
    obtain ⟨fu, rfl⟩ : ∃ fu, fuel = fu + 1 := ⟨fuel - 1, by omega⟩
    obtain ⟨fv, rfl⟩ : ∃ fv, f2 = fv + 1 := ⟨f2 - 1, by omega⟩
    obtain rfl : k = 7 := by omega
    refine ⟨v, K, q, ?_, ?_, G, s, h0⟩
    · rw [f_CT_span_17, if_pos (show (6 : Int32) < iN 7 by decide)]
      rcases hv with ⟨h, -⟩ | ⟨-, -, -, h⟩
      · omega
      · by_cases ha : a = 0
        · rw [if_pos ha, h, if_pos ha]
        · rw [if_neg ha, h, if_neg ha]
    · rw [f_R_span_60, if_pos (show (6 : Int32) < iN 7 by decide)]
  | succ j ih =>
    intro k fuel f2 mn mx v K q hk hf hf2 G s h4 h0 hv
    obtain ⟨fu, rfl⟩ : ∃ fu, fuel = fu + 1 := ⟨fuel - 1, by omega⟩
    obtain ⟨fv, rfl⟩ : ∃ fv, f2 = fv + 1 := ⟨f2 - 1, by omega⟩
    obtain ⟨K1, c1, G1, ⟨g1, g2, lw, g3, g4⟩⟩ := G.draft (by omega)
    have SD : Shape K1 (x + 85) := G1.A.td
    have hl := g3.ok
    have F2 : Fr (x + 85) 41 (x + 628) K1 (m_setI K1 (x + 85) 8 (iN k)) := Fr.setI (by omega) (by omega) (by omega)
    have G2 := G1.frD F2
    have R2 : TRel (m_setI K1 (x + 85) 8 (iN k)) (x + 85) (up1 (r.2 1) 16 (iN k)) := g2.seed SD g1 (iN k)
    have I2 : Inv (up1 (r.2 1) 16 (iN k)) := g1.cgC fun k h1 h2 h3 => up1_ne (by omega)
    obtain ⟨K3, c3, F3, -, -, -⟩ := f_Town_passRounds_eq (N := N) (n := n) G2.A.td I2 R2 (F2.wRel g3) (by omega) (by omega) (by omega)
    have G3 := G2.frD F3
    have e1 : q.2 1 = r.2 1 := s.1.1
    have K4 : RdOK N (up1 (r.2 1) 16 (iN k)) lw := g4.cg (up1_ne (by decide)) (up1_ne (by decide)) (fun _ _ => up1_ne (by omega))
    obtain ⟨q3, m3, s3, a3, z3⟩ := tries0 (r := setM q (up1 (r.2 1) 16 (iN k))) (m0 := r.2 1) (N := N) (n := n) (lw := lw) I2 K4 hl hN (by omega) h4 (fun k hk => up1_ne (by omega))
    have s3 : S0 r q3 := by
      have h : setM (setM q (up1 (r.2 1) 16 (iN k))) (r.2 1) = q := by rw [setM_setM, ← e1, setM_id]
      rw [h] at s3
      exact s.trans s3
    have z3 : q3.1 0 = 0 := z3.trans h0
    have m3 : f_R_tries N (iN n) 0 (setM q (up1 (r.2 1) 16 (iN k))) = some ((goM lw n (0, up1 (r.2 1) 16 (iN k))).1, q3) := m3
    obtain ⟨u, hu, eu⟩ := goM_nb (lw := lw) (n := n) I2 hl (by omega)
    rw [eu] at c3 m3
    have h6 : ¬ (6 : Int32) < iN k := iN_nlt (k := 6) (by omega) (by decide)
    have cl : f_CT_span_17 N x (iN n) a (fu + 1) mn mx (iN k) K = f_CT_span_17 N x (iN n) a fu (if iN u < mn then iN u else mn) (if mx < iN u then iN u else mx) (iN (k + 1)) K3 := by
      rw [f_CT_span_17, if_neg h6, G.A.gD, ob, G.A.gN, ob, G.A.td.c0, ob, c1, ob, G1.A.gD, ob, SD.p0, ob, G2.A.gD, ob, G2.A.td.c0, ob, c3, ob]
      dsimp only
      rw [min_eq, ob, max_eq, ob, iN_s]
    have fin : ∀ w, spR a (k + 1) (if iN u < mn then iN u else mn) (if mx < iN u then iN u else mx) w → f_R_span_60 N (iN n) a (fv + 1) v (iN k) q = f_R_span_60 N (iN n) a fv w (iN (k + 1)) q3 → ∃ w K2 q2, f_CT_span_17 N x (iN n) a (fu + 1) mn mx (iN k) K = some (.inl w, K2) ∧ f_R_span_60 N (iN n) a (fv + 1) v (iN k) q = some (w, q2) ∧ GS N x o ps ys K2 r ∧ S0 r q2 ∧ q2.1 0 = 0 := fun w h1 h2 => by
      rw [cl, h2]
      exact ih (k + 1) fu fv _ _ w K3 q3 (by omega) (by omega) (by omega) G3 s3 a3 z3 h1
    have md : f_R_span_60 N (iN n) a (fv + 1) v (iN k) q = if v = -1 then f_R_span_60 N (iN n) a fv (iN u) (iN (k + 1)) q3 else (if a = 0 then f_R_span_60 N (iN n) a fv (if iN u < v then iN u else v) (iN (k + 1)) q3 else f_R_span_60 N (iN n) a fv (if v < iN u then iN u else v) (iN (k + 1)) q3) := by
      rw [f_R_span_60, if_neg h6, wrm16, ob, e1, m3, ob]
      unfold f_R_span_113
      dsimp only
      rw [lesser_eq, greater_eq, ob, ob, iN_s]
    rcases hv with ⟨h1, h2, h3, h5⟩ | ⟨h1, ⟨mn', h2, rfl⟩, ⟨mx', h3, rfl⟩, h5⟩
    · refine fin (iN u) ?_ (md.trans (if_pos h5))
      have e1 : (if iN u < mn then iN u else mn) = iN u := by
        rw [h2, if_pos (show iN u < (1000000000 : Int32) from iN_ylt (n := 1000000000) (by omega) (by decide))]
      have e2 : (if mx < iN u then iN u else mx) = iN u := by
        rw [h3]
        by_cases hu0 : u = 0
        · rw [hu0]; rfl
        · rw [if_pos (show (0 : Int32) < iN u from iN_ylt (k := 0) (by omega) (by omega))]
      rw [e1, e2]
      refine Or.inr ⟨by omega, ⟨u, hu, rfl⟩, ⟨u, hu, rfl⟩, ?_⟩
      by_cases ha : a = 0
      · rw [if_pos ha]
      · rw [if_neg ha]
    · have n1 : nb (if iN u < iN mn' then iN u else iN mn') 960000 := by
        by_cases h : iN u < iN mn'
        · rw [if_pos h]; exact ⟨u, hu, rfl⟩
        · rw [if_neg h]; exact ⟨mn', h2, rfl⟩
      have n2 : nb (if iN mx' < iN u then iN u else iN mx') 960000 := by
        by_cases h : iN mx' < iN u
        · rw [if_pos h]; exact ⟨u, hu, rfl⟩
        · rw [if_neg h]; exact ⟨mx', h3, rfl⟩
      have nv : v ≠ -1 := by
        rw [h5]
        by_cases ha : a = 0
        · rw [if_pos ha]; exact iN_m1 (by omega)
        · rw [if_neg ha]; exact iN_m1 (by omega)
      by_cases ha : a = 0
      · rw [if_pos ha] at h5
        subst h5
        refine fin (if iN u < iN mn' then iN u else iN mn') (Or.inr ⟨by omega, n1, n2, (if_pos ha).symm⟩) ?_
        rw [md, if_neg nv, if_pos ha]
      · rw [if_neg ha] at h5
        subst h5
        refine fin (if iN mx' < iN u then iN u else iN mx') (Or.inr ⟨by omega, n1, n2, (if_neg ha).symm⟩) ?_
        rw [md, if_neg nv, if_neg ha]
theorem span_30 (hN : 20000 ≤ N) : f_R_span_30 N a b N 0 r = f_R_span_60 N a b N (-1) 1 (cpR 1 0 4 0 900 r) := by
  refine (run_cp (F := fun fuel k z => f_R_span_30 N a b fuel (iN k) z) (fin := fun z => f_R_span_60 N a b N (-1) 1 z) (n := 900) (a := 1) (oa := 0) (b := 4) (ob := 0) (Or.inl (by decide)) (fun fuel z _ => ?_) (fun fuel k z hk _ => ?_) (by omega))
  · show f_R_span_30 N a b (fuel + 1) (iN 900) z = _
    rw [f_R_span_30, if_pos (show (900 : Int32) ≤ iN 900 from i_le_rfl 900)]
  · show f_R_span_30 N a b (fuel + 1) (iN k) z = _
    rw [f_R_span_30, if_neg (show ¬ (900 : Int32) ≤ iN k from iN_nle (n := 900) hk (by decide)), rld1 (by omega), ob, rst4 hk, ob, iN_s, Nat.zero_add]
theorem aside_S0 : S0 r (cpR 1 0 4 0 900 r) ∧ Asd (r.2 1) (cpR 1 0 4 0 900 r) :=
  ⟨⟨⟨cpR_ne (by decide), cpR_ne (by decide), cpR_ne (by decide), cpR_ne (by decide)⟩, rfl, rfl, rfl, rfl, id⟩, fun i hi => by rw [cpR_own, if_pos (by omega), Nat.zero_add, Nat.sub_zero]⟩
theorem op_span (G : GS N x o ps ys M r) (hN : 20000 ≤ N) : Both N x o (f_L_span N x a b o M) (f_R_span N a b r) := by
  by_cases h : okI a 0 20
  · obtain ⟨n, -, h2, rfl⟩ := h
    obtain ⟨s0, a0⟩ := aside_S0 (r := r_set r 0 0)
    obtain ⟨w, K2, q2, c1, m1, G2, s2, z2⟩ := span_key (a := b) (r := r_set r 0 0) (N := N) (n := n) (x := x) (o := o) (ps := ps) (ys := ys) G.I hN h2 6 1 N N 1000000000 0 (-1) M (cpR 1 0 4 0 900 (r_set r 0 0)) (by decide) (by omega) (by omega) (G.th 0) s0 a0 (th0 r 0) (Or.inl ⟨rfl, rfl, rfl, rfl⟩)
    refine both_ok (v := w) (G2.s0 s2) z2 ?_ ?_
    · unfold f_L_span f_CT_span
      rw [G.A.c, ob, show f_CT_needNumber (iN n) 0 20 M = some (.inl (), M) from needN_y (lo := 0) (hi := 20) (by omega) h2 (by decide), ob, sx_l, show f_CT_span_17 N x (iN n) b N 1000000000 0 1 M = _ from c1, ob, sx_l]
      rfl
    · unfold f_R_span f_R_span_16
      rw [show f_R_isIn (iN n) 0 20 = some 1 from isInI_y (lo := 0) (hi := 20) (by omega) h2 (by decide), ob, if_neg i1n, th0, if_pos i00, span_30 hN]
      exact m1
  · refine both_ex (c := 1) (v := 0) (G.new.th 1) i1n (th0 r 1) ?_ ?_
    · unfold f_L_span f_CT_span
      rw [G.A.c, ob, show f_CT_needNumber a 0 20 M = some (.inr "java/lang/IllegalArgumentException", m_new M (0, 0)) from needN_n (lo := 0) (hi := 20) h (by decide) (by decide), ob, sx_r, ob, sx_r, if_pos rfl]
    · unfold f_R_span f_R_span_16
      rw [show f_R_isIn a 0 20 = some 0 from isInI_n (lo := 0) (hi := 20) h (by decide) (by decide), ob, if_pos rfl, th0, if_neg i10]
end Sq
