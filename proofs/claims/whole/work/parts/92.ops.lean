/-! operations: both sides say the same, and hold the same behind it -/
def Both (N x o : Nat) (cl : Option (Int32 × Mem)) (md : Option (Int32 × Rho)) : Prop :=
  ∃ (ps ys : Nat → Nat) (z3 : Int32 × Mem) (z6 : Int32 × Rho), cl = some z3 ∧ md = some z6 ∧ GS N x o ps ys z3.2 z6.2 ∧ ∀ kk, fin3 o z3 z6 kk = kk z3.2 z6.2
/-- .. where nothing is thrown: the answers themselves are held against one another -/
def Both2 (N x o : Nat) (cl : Option (Int32 × Mem)) (md : Option (Int32 × Rho)) : Prop :=
  ∃ (ps ys : Nat → Nat) (v : Int32) (K : Mem) (q : Rho), cl = some (v, K) ∧ md = some (v, q) ∧ GS N x o ps ys K q
def lsO (o : Nat) (v : Int32) (K : Mem) : Option (Int32 × Mem) := (lst K o 0 (Int32.toInt64 v)).bind fun M3 => some (0, M3)
section Op
variable {N x o : Nat} {ps ys : Nat → Nat} {M K : Mem} {r q : Rho} {v c : Int32} {cl : Option (Int32 × Mem)} {md : Option (Int32 × Rho)}
theorem both_ok (G : GS N x o ps ys K q) (ht : q.1 0 = 0) (hcl : cl = lsO o v K) (hmd : md = some (v, q)) : Both N x o cl md := by
  refine ⟨ps, ys, (0, m_setL K o 0 (Int32.toInt64 v)), (v, q), ?_, hmd, G.setL 0 _, fun kk => fin3_ok G ht kk⟩
  rw [hcl]
  unfold lsO
  rw [lst_o G, ob]
theorem both_ex (G : GS N x o ps ys K q) (hc : c ≠ 0) (ht : q.1 0 = c) (hcl : cl = some (c, K)) (hmd : md = some (v, q)) : Both N x o cl md :=
  ⟨ps, ys, (c, K), (v, q), hcl, hmd, G, fun kk => fin3_ex hc ht kk⟩
end Op
/-! numbers that must be in a range -/
def okR (a : Int32) (n : Nat) : Prop := ∃ k, k < n ∧ a = iN k
section Rg
variable {a : Int32} {n : Nat}
theorem okR_y (h : okR a n) (hn : n ≤ 100000) : ¬ a < 0 ∧ a < iN n ∧ a = iN a.toNatClampNeg ∧ a.toNatClampNeg < n := by
  obtain ⟨k, h1, rfl⟩ := h
  rw [iN_cl (by omega)]
  exact ⟨iN_nn (by omega), iN_ylt h1 (by omega), rfl, h1⟩
theorem okR_n (h : ¬ okR a n) (hn : n ≤ 100000) (h0 : ¬ a < 0) : ¬ a < iN n := by
  intro hl
  obtain ⟨h1, h2⟩ := iN_of (Int32.not_lt.mp h0)
  refine h ⟨_, ?_, h1⟩
  rw [h1] at hl
  exact (iN_lt h2 (by omega)).mp hl
theorem isIn_y (h : okR a n) (hn : n ≤ 100000) : f_R_isIn a 0 (iN n - 1) = some 1 := by
  obtain ⟨k, h1, rfl⟩ := h
  unfold f_R_isIn
  rw [if_neg (iN_nn (by omega)), show iN n - 1 = iN (n - 1) from iN_sub (b := 1) (by omega), if_neg (iN_nlt (by omega) (by omega))]
theorem isIn_n (h : ¬ okR a n) (hn : n ≤ 100000) : f_R_isIn a 0 (iN n - 1) = some 0 := by
  unfold f_R_isIn
  by_cases h0 : a < 0
  · rw [if_pos h0]
  · rw [if_neg h0, if_pos]
    have h1 := okR_n h hn h0
    by_cases hz : n = 0
    · subst hz
      have e : iN 0 - 1 = -1 := by decide
      rw [e]
      exact Int32.lt_of_lt_of_le (by decide : (-1 : Int32) < 0) (Int32.not_lt.mp h0)
    · rw [show iN n - 1 = iN (n - 1) from iN_sub (b := 1) (by omega)]
      exact Int32.lt_of_lt_of_le (iN_ylt (k := n - 1) (by omega) (by omega)) (Int32.not_lt.mp h1)
theorem e31 : (31 : Int32) = iN 32 - 1 := by decide
theorem isCode_y (h : okR a 32) : f_R_isCode a = some 1 := by
  unfold f_R_isCode
  rw [e31, isIn_y h (by decide)]
  rfl
theorem isCode_n (h : ¬ okR a 32) : f_R_isCode a = some 0 := by
  unfold f_R_isCode
  rw [e31, isIn_n h (by decide)]
  rfl
section Rr
variable {r : Rho}
theorem isPerson_y (I : Inv (r.2 1)) (h : okR a (cn (r.2 1) 5)) : f_R_isPerson a r = some 1 := by
  unfold f_R_isPerson
  have hb := I.b5
  rw [rlm5, ob, I.n5, isIn_y h (by omega)]
  rfl
theorem isPerson_n (I : Inv (r.2 1)) (h : ¬ okR a (cn (r.2 1) 5)) : f_R_isPerson a r = some 0 := by
  unfold f_R_isPerson
  have hb := I.b5
  rw [rlm5, ob, I.n5, isIn_n h (by omega)]
  rfl
theorem isLand_y (I : Inv (r.2 1)) (h : okR a (cn (r.2 1) 3)) : f_R_isLand a r = some 1 := by
  unfold f_R_isLand
  have hb := I.b3
  rw [rlm3, ob, I.n3, isIn_y h (by omega)]
  rfl
theorem isLand_n (I : Inv (r.2 1)) (h : ¬ okR a (cn (r.2 1) 3)) : f_R_isLand a r = some 0 := by
  unfold f_R_isLand
  have hb := I.b3
  rw [rlm3, ob, I.n3, isIn_n h (by omega)]
  rfl
end Rr
theorem needG_y {M : Mem} (h : okR a 32) : f_CT_needGreeting a M = some (.inl (), M) := by
  obtain ⟨h1, h2, -⟩ := okR_y h (by decide)
  unfold f_CT_needGreeting
  rw [if_neg h1, if_pos (show a < 32 from h2)]
theorem needG_n {M : Mem} (h : ¬ okR a 32) : f_CT_needGreeting a M = some (.inr "java/lang/IndexOutOfBoundsException", m_new M (0, 0)) := by
  unfold f_CT_needGreeting f_CT_needGreeting_10
  by_cases h0 : a < 0
  · rw [if_pos h0]
  · rw [if_neg h0, if_neg (show ¬ a < 32 from okR_n h (by decide) h0)]
section Nd
variable {N x o : Nat} {ps ys : Nat → Nat} {M : Mem} {r : Rho} {b : Int32}
theorem needL_y (G : GS N x o ps ys M r) (h : okR a (cn (r.2 1) 3)) : f_CT_needLand x a M = some (.inl (), M) := by
  have hb := G.I.b3
  obtain ⟨h1, h2, -⟩ := okR_y h (by omega)
  unfold f_CT_needLand
  rw [if_neg h1, G.A.gN, ob, G.S.g_lands, ob, G.S.i1, ob, G.R.v3, G.I.n3, if_pos h2]
theorem needL_n (G : GS N x o ps ys M r) (h : ¬ okR a (cn (r.2 1) 3)) : f_CT_needLand x a M = some (.inr "java/lang/IndexOutOfBoundsException", m_new M (0, 0)) := by
  have hb := G.I.b3
  unfold f_CT_needLand f_CT_needLand_18
  by_cases h0 : a < 0
  · rw [if_pos h0]
  · rw [if_neg h0, G.A.gN, ob, G.S.g_lands, ob, G.S.i1, ob, G.R.v3, G.I.n3, if_neg (okR_n h (by omega) h0)]
theorem needP_y (G : GS N x o ps ys M r) (h : okR a (cn (r.2 1) 5)) : f_CT_needPerson x a M = some (.inl (), M) := by
  have hb := G.I.b5
  obtain ⟨h1, h2, -⟩ := okR_y h (by omega)
  unfold f_CT_needPerson
  rw [if_neg h1, G.A.gN, ob, G.S.i0, ob, G.R.v5, G.I.n5, if_pos h2]
theorem needP_n (G : GS N x o ps ys M r) (h : ¬ okR a (cn (r.2 1) 5)) : f_CT_needPerson x a M = some (.inr "java/lang/IndexOutOfBoundsException", m_new M (0, 0)) := by
  have hb := G.I.b5
  unfold f_CT_needPerson f_CT_needPerson_15
  by_cases h0 : a < 0
  · rw [if_pos h0]
  · rw [if_neg h0, G.A.gN, ob, G.S.i0, ob, G.R.v5, G.I.n5, if_neg (okR_n h (by omega) h0)]
theorem needT_y (G : GS N x o ps ys M r) (h : okR a (cn (r.2 1) 6)) : f_CT_needTie x a M = some (.inl (), M) := by
  have hb := G.I.b6
  obtain ⟨h1, h2, -⟩ := okR_y h (by omega)
  unfold f_CT_needTie
  rw [if_neg h1, G.A.gN, ob, G.S.i0, ob, G.R.v6, G.I.n6, if_pos h2]
theorem needT_n (G : GS N x o ps ys M r) (h : ¬ okR a (cn (r.2 1) 6)) : f_CT_needTie x a M = some (.inr "java/lang/IndexOutOfBoundsException", m_new M (0, 0)) := by
  have hb := G.I.b6
  unfold f_CT_needTie f_CT_needTie_15
  by_cases h0 : a < 0
  · rw [if_pos h0]
  · rw [if_neg h0, G.A.gN, ob, G.S.i0, ob, G.R.v6, G.I.n6, if_neg (okR_n h (by omega) h0)]
theorem needW_y (n : Nat) (hn : n ≤ 100) (h : okR a (n + 1)) : f_CT_needWhat a (iN n) M = some (.inl (), M) := by
  obtain ⟨k, h1, rfl⟩ := h
  unfold f_CT_needWhat
  rw [if_neg (iN_nn (by omega)), if_pos (iN_yle (by omega) (by omega))]
theorem needW_n (n : Nat) (hn : n ≤ 100) (h : ¬ okR a (n + 1)) : f_CT_needWhat a (iN n) M = some (.inr "java/util/NoSuchElementException", m_new M (0, 0)) := by
  unfold f_CT_needWhat f_CT_needWhat_9
  by_cases h0 : a < 0
  · rw [if_pos h0]
  · rw [if_neg h0, if_neg]
    intro hl
    obtain ⟨h1, h2⟩ := iN_of (Int32.not_lt.mp h0)
    rw [h1] at hl
    have := (iN_le h2 (by omega)).mp hl
    exact h ⟨_, by omega, h1⟩
/-- two that are people, and apart -/
def okT (m : Nat → Int32) (a b : Int32) : Prop := ∃ p q, p < cn m 5 ∧ q < cn m 5 ∧ p ≠ q ∧ a = iN p ∧ b = iN q
theorem needTwo_1 (G : GS N x o ps ys M r) (h : ¬ okR a (cn (r.2 1) 5)) : f_CT_needTwo x a b M = some (.inr "java/lang/IndexOutOfBoundsException", m_new M (0, 0)) := by
  unfold f_CT_needTwo
  rw [G.A.c, ob, needP_n G h, ob, sx_r]
theorem needTwo_2 (G : GS N x o ps ys M r) (h : okR a (cn (r.2 1) 5)) (h2 : ¬ okR b (cn (r.2 1) 5)) : f_CT_needTwo x a b M = some (.inr "java/lang/IndexOutOfBoundsException", m_new M (0, 0)) := by
  unfold f_CT_needTwo
  rw [G.A.c, ob, needP_y G h, ob, sx_l, G.A.c, ob, needP_n G h2, ob, sx_r]
theorem needTwo_3 (G : GS N x o ps ys M r) (h : okR a (cn (r.2 1) 5)) (h2 : okR b (cn (r.2 1) 5)) (h3 : a = b) : f_CT_needTwo x a b M = some (.inr "java/lang/IllegalArgumentException", m_new M (0, 0)) := by
  unfold f_CT_needTwo
  rw [G.A.c, ob, needP_y G h, ob, sx_l, G.A.c, ob, needP_y G h2, ob, sx_l, if_pos h3]
theorem needTwo_y (G : GS N x o ps ys M r) (h : okR a (cn (r.2 1) 5)) (h2 : okR b (cn (r.2 1) 5)) (h3 : a ≠ b) : f_CT_needTwo x a b M = some (.inl (), M) := by
  unfold f_CT_needTwo
  rw [G.A.c, ob, needP_y G h, ob, sx_l, G.A.c, ob, needP_y G h2, ob, sx_l, if_neg h3]
theorem two_1 (I : Inv (r.2 1)) (h : ¬ okR a (cn (r.2 1) 5)) : f_R_two a b r = some 1 := by
  unfold f_R_two
  rw [isPerson_n I h, ob, if_pos rfl]
theorem two_2 (I : Inv (r.2 1)) (h : okR a (cn (r.2 1) 5)) (h2 : ¬ okR b (cn (r.2 1) 5)) : f_R_two a b r = some 1 := by
  unfold f_R_two
  rw [isPerson_y I h, ob, if_neg (by decide), isPerson_n I h2, ob, if_pos rfl]
theorem two_3 (I : Inv (r.2 1)) (h : okR a (cn (r.2 1) 5)) (h2 : okR b (cn (r.2 1) 5)) (h3 : a = b) : f_R_two a b r = some 2 := by
  unfold f_R_two
  rw [isPerson_y I h, ob, if_neg (by decide), isPerson_y I h2, ob, if_neg (by decide), if_pos h3]
theorem two_y (I : Inv (r.2 1)) (h : okR a (cn (r.2 1) 5)) (h2 : okR b (cn (r.2 1) 5)) (h3 : a ≠ b) : f_R_two a b r = some 0 := by
  unfold f_R_two
  rw [isPerson_y I h, ob, if_neg (by decide), isPerson_y I h2, ob, if_neg (by decide), if_neg h3]
end Nd
end Rg
/-- the model's state with what was thrown -/
abbrev thR (r : Rho) (c : Int32) : Rho := r_set r 0 c
theorem th0 (r : Rho) (c : Int32) : (r_set r 0 c).1 0 = c := set_s r 0 c
theorem thI {r : Rho} (I : Inv (r.2 1)) (c : Int32) : Inv ((r_set r 0 c).2 1) := I
