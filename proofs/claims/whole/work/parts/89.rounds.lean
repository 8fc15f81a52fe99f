/-! rounds -/
/-- what meetings leave as it was -/
def Lo (m m2 : Nat → Int32) : Prop := ∀ k, (k < 92 ∧ (k < 7 ∨ 12 < k) ∧ k ≠ 16) ∨ (372 ≤ k ∧ k < 420) ∨ 900 ≤ k → m2 k = m k
theorem Lo.refl (m : Nat → Int32) : Lo m m := fun _ _ => rfl
theorem Lo.trans {a b c : Nat → Int32} (h : Lo a b) (k : Lo b c) : Lo a c := fun j hj => (k j hj).trans (h j hj)
theorem Lo.c {m m2 : Nat → Int32} (h : Lo m m2) {j : Nat} (hj : j < 7) : cn m2 j = cn m j := cn_cg (h j (by omega))
theorem RdOK.cg {N : Nat} {m m2 : Nat → Int32} {lw : (Nat → Int32) → Int32} (h : RdOK N m lw) (h1 : m2 1 = m 1) (h2 : m2 2 = m 2) (h9 : ∀ k, k < 400 → m2 (900 + k) = m (900 + k)) : RdOK N m2 lw := by
  rcases h with ⟨a, b⟩ | ⟨a, b⟩
  · exact Or.inl ⟨by rw [h1]; exact a, b⟩
  · refine Or.inr ⟨by rw [h1]; exact a, fun r hr x1 x2 => ?_⟩
    rw [h2] at x2
    exact b r (fun k hk => (hr k hk).trans (h9 k hk)) x1 x2
theorem Lo.rd {N : Nat} {m m2 : Nat → Int32} {lw : (Nat → Int32) → Int32} (h : Lo m m2) (k : RdOK N m lw) : RdOK N m2 lw := k.cg (h 1 (by omega)) (h 2 (by omega)) fun k _ => h _ (by omega)
section Ro
variable {M : Mem} {r : Rho} {t B N x y n : Nat} {m m2 : Nat → Int32} {lw : (Nat → Int32) → Int32} {ln : Int32}
theorem TRel.cgC {K : Mem} (h : TRel M t m) (I : Inv m) (hM : ∀ b, t < b → b < t + 41 → m_iv K b = m_iv M b) (hm : ∀ k, k < 900 → k ≠ 0 → (k < 7 ∨ 11 < k) → k ≠ 16 → m2 k = m k) (hC : CRel K t m2) : TRel K t m2 := by
  have h3 : cn m2 3 = cn m 3 := cn_cg (hm 3 (by omega) (by omega) (by omega) (by omega))
  have h4 : cn m2 4 = cn m 4 := cn_cg (hm 4 (by omega) (by omega) (by omega) (by omega))
  have h5 : cn m2 5 = cn m 5 := cn_cg (hm 5 (by omega) (by omega) (by omega) (by omega))
  have h6 : cn m2 6 = cn m 6 := cn_cg (hm 6 (by omega) (by omega) (by omega) (by omega))
  have h12 : cn m2 12 = cn m 12 := cn_cg (hm 12 (by omega) (by omega) (by omega) (by omega))
  have b4 := I.b4
  have b6 := I.b6
  have b12 := I.b12
  refine ⟨⟨?_, ?_, ?_, fun k hk => ?_⟩, hC, fun q hq => (h.P hq).cg hq I.b6 (fun b h1 h2 => hM b (by omega) (by omega)) (fun k hk => hm k (by omega) (by omega) (by omega) (by omega)), fun k hk => ?_, ?_, ?_⟩
  · rw [hM _ (by omega) (by omega), hm _ (by omega) (by omega) (by omega) (by omega)]; exact h.v3
  · rw [hM _ (by omega) (by omega), hm _ (by omega) (by omega) (by omega) (by omega)]; exact h.v4
  · rw [hM _ (by omega) (by omega), hm 13 (by omega) (by omega) (by omega) (by omega), hm 14 (by omega) (by omega) (by omega) (by omega), hm 15 (by omega) (by omega) (by omega) (by omega)]; exact h.1.2.2.1
  · rw [h4] at hk
    rw [hM _ (by omega) (by omega), hM _ (by omega) (by omega), hM _ (by omega) (by omega), hm _ (by omega) (by omega) (by omega) (by omega), hm _ (by omega) (by omega) (by omega) (by omega), hm _ (by omega) (by omega) (by omega) (by omega)]
    exact h.hab hk
  · rw [h6] at hk
    unfold tA tB
    rw [hM _ (by omega) (by omega), hM _ (by omega) (by omega), hm _ (by omega) (by omega) (by omega) (by omega), hm _ (by omega) (by omega) (by omega) (by omega)]
    exact h.E k hk
  · rw [hM _ (by omega) (by omega), hm _ (by omega) (by omega) (by omega) (by omega)]; exact h.G.1
  · obtain ⟨w, hw, e1, e2⟩ := h.G.2
    refine ⟨w, hw, by rw [hM _ (by omega) (by omega)]; exact e1, fun k c hk hc => ?_⟩
    rw [h12] at hk
    rw [hM _ (by omega) (by omega), e2 k c hk hc]
    exact (hm _ (by omega) (by omega) (by omega) (by omega)).symm
theorem Inv.cgC (I : Inv m) (hm : ∀ k, k < 900 → (k < 7 ∨ 11 < k) → k ≠ 16 → m2 k = m k) : Inv m2 := by
  obtain ⟨i1, i2, i3, i4, i5⟩ := I
  exact ⟨i1.cg fun k hk => hm k (by omega) (by omega) (by omega), i2.cg fun k hk => hm k (by omega) (by omega) (by omega), i3.cg fun k hk => hm k (by omega) (by omega) (by omega), i4.cg fun k hk => hm k (by omega) (by omega) (by omega), by rw [hm 0 (by omega) (by omega) (by omega)]; exact i5⟩
/-- one round more -/
theorem TRel.round (S : Shape M t) (I : Inv m) (R : TRel M t m) (v : Int32) : TRel (m_setI M t 9 v) t (up1 m 7 v) := by
  refine R.cgC I (fun b h1 h2 => iv_ne (by omega)) (fun k h1 h2 h3 h4 => up1_ne (by omega)) ?_
  unfold CRel
  rw [iv_same]
  have a : ∀ {j c : Nat}, j ≠ 9 → c ≠ 7 → m_iv M t j = m c → up1 (m_iv M t) 9 v j = up1 m 7 v c := fun h1 h2 h => (up1_ne h1).trans (h.trans (up1_ne h2).symm)
  exact ⟨a (by decide) (by decide) R.v5, a (by decide) (by decide) R.v6, a (by decide) (by decide) R.v0, a (by decide) (by decide) R.v16, (up1_same _ _ _).trans (up1_same _ _ _).symm, a (by decide) (by decide) R.v8, a (by decide) (by decide) R.v9, a (by decide) (by decide) R.v10, a (by decide) (by decide) R.v11⟩
theorem TRel.seed (S : Shape M t) (I : Inv m) (R : TRel M t m) (v : Int32) : TRel (m_setI M t 8 v) t (up1 m 16 v) := by
  refine R.cgC I (fun b h1 h2 => iv_ne (by omega)) (fun k h1 h2 h3 h4 => up1_ne (by omega)) ?_
  unfold CRel
  rw [iv_same]
  have a : ∀ {j c : Nat}, j ≠ 8 → c ≠ 16 → m_iv M t j = m c → up1 (m_iv M t) 8 v j = up1 m 16 v c := fun h1 h2 h => (up1_ne h1).trans (h.trans (up1_ne h2).symm)
  exact ⟨a (by decide) (by decide) R.v5, a (by decide) (by decide) R.v6, a (by decide) (by decide) R.v0, (up1_same _ _ _).trans (up1_same _ _ _).symm, a (by decide) (by decide) R.v7, a (by decide) (by decide) R.v8, a (by decide) (by decide) R.v9, a (by decide) (by decide) R.v10, a (by decide) (by decide) R.v11⟩
/-- the ends of a tie, the lesser first -/
def tX (m : Nat → Int32) (k : Nat) : Nat := min (tA m k).toNatClampNeg (tB m k).toNatClampNeg
def tY (m : Nat → Int32) (k : Nat) : Nat := max (tA m k).toNatClampNeg (tB m k).toNatClampNeg
theorem Inv.xy (I : Inv m) {k : Nat} (hk : k < cn m 6) : ∃ a b, tA m k = iN a ∧ tB m k = iN b ∧ a < cn m 5 ∧ b < cn m 5 ∧ tX m k < tY m k ∧ tY m k < cn m 5 ∧ ((a = tX m k ∧ b = tY m k) ∨ (a = tY m k ∧ b = tX m k)) := by
  obtain ⟨a, b, h1, h2, h3, h4, h5⟩ := I.t hk
  have hb := I.b5
  refine ⟨a, b, h4, h5, h1, h2, ?_⟩
  unfold tX tY
  rw [h4, h5, iN_cl (by omega), iN_cl (by omega)]
  omega
/-- the meeting of the k-th tie, costs together -/
def tieS (lw : (Nat → Int32) → Int32) (k : Nat) (z : Int32 × (Nat → Int32)) : Int32 × (Nat → Int32) := (z.1 + (meM lw z.2 (tX z.2 k) (tY z.2 k)).1, (meM lw z.2 (tX z.2 k) (tY z.2 k)).2)
def rndM (lw : (Nat → Int32) → Int32) (z : Int32 × (Nat → Int32)) : Int32 × (Nat → Int32) := ((lp (tieS lw) (cn z.2 6) 0 z).1, up1 (lp (tieS lw) (cn z.2 6) 0 z).2 7 ((lp (tieS lw) (cn z.2 6) 0 z).2 7 + 1))
def goM (lw : (Nat → Int32) → Int32) (n : Nat) (z : Int32 × (Nat → Int32)) : Int32 × (Nat → Int32) := lp (fun _ z => rndM lw z) n 0 z
theorem lp_s {σ : Type} (f : Nat → σ → σ) (j k : Nat) (z : σ) : lp f (j + 1) k z = lp f j (k + 1) (f k z) := rfl
theorem lp_z {σ : Type} (f : Nat → σ → σ) (k : Nat) (z : σ) : lp f 0 k z = z := rfl
theorem tieS_eq (lw : (Nat → Int32) → Int32) (k : Nat) (c : Int32) (m : Nat → Int32) : tieS lw k (c, m) = (c + (meM lw m (tX m k) (tY m k)).1, (meM lw m (tX m k) (tY m k)).2) := rfl
theorem rndM_eq (lw : (Nat → Int32) → Int32) (c : Int32) (m : Nat → Int32) : rndM lw (c, m) = ((lp (tieS lw) (cn m 6) 0 (c, m)).1, up1 (lp (tieS lw) (cn m 6) 0 (c, m)).2 7 ((lp (tieS lw) (cn m 6) 0 (c, m)).2 7 + 1)) := rfl
theorem m5M_hi {gx gy : Int32} (hx : x < 10) (hy : y < 10) {k : Nat} (h : 900 ≤ k) : m5M m x y gx gy k = m k := by
  unfold m5M lgM
  rw [if_neg (by omega), if_pos (by omega), m4M_ne (by omega), m3M_out hx hy (by omega) (by omega)]
theorem meM_lo (hx : x < 10) (hy : y < 10) : Lo m (meM lw m x y).2 := by
  intro k hk
  show m5M m x y _ _ k = m k
  by_cases h : 900 ≤ k
  · exact m5M_hi hx hy h
  · exact m5M_out hx hy (by omega) (by omega) (by omega)
theorem meM_inv (I : Inv m) (hl : LwOK lw) (hxy : x < y) (hy : y < cn m 5) : Inv (meM lw m x y).2 := by
  have h5 := I.b5
  exact I.m5 hxy hy (bgM_ok I hl (by omega) (by omega)) (bgM_ok I hl hy (by omega))
theorem tieS_inv (I : Inv m) (hl : LwOK lw) {k : Nat} (hk : k < cn m 6) (c : Int32) : Inv (tieS lw k (c, m)).2 ∧ Lo m (tieS lw k (c, m)).2 := by
  obtain ⟨a, b, -, -, -, -, h1, h2, -⟩ := I.xy hk
  have h5 := I.b5
  rw [tieS_eq]
  dsimp only
  exact ⟨meM_inv I hl h1 h2, meM_lo (by omega) (by omega)⟩
/-- the class: the ties of a round from the k-th on -/
theorem f_Town_passRounds_12_eq (ht : t + 41 ≤ B) (hN : 500 < N) (hl : LwOK lw) (a0 x3 : Int32) (k4 : Int32 → Int32 → Mem → Option (Int32 × Mem)) : ∀ (j k fuel : Nat) (c : Int32) (M : Mem) (m : Nat → Int32), k + j = cn m 6 → j < fuel → Shape M t → Inv m → TRel M t m → WRel M t B lw ln →
    ∃ K, f_Town_passRounds_12 N t a0 k4 fuel c x3 (iN k) M = k4 (lp (tieS lw) j k (c, m)).1 (x3 + 1) K ∧ Fr t 41 B M K ∧ TRel K t (up1 (lp (tieS lw) j k (c, m)).2 7 ((lp (tieS lw) j k (c, m)).2 7 + 1)) ∧ Inv (lp (tieS lw) j k (c, m)).2 ∧ Lo m (lp (tieS lw) j k (c, m)).2 := by
  intro j
  induction j with
  | zero =>
    intro k fuel c M m hk hf S I R W
    obtain ⟨fu, rfl⟩ : ∃ fu, fuel = fu + 1 := ⟨fuel - 1, by omega⟩
    have hk : k = cn m 6 := by omega
    rw [lp_z]
    refine ⟨m_setI M t 9 (m 7 + 1), ?_, Fr.setI (Nat.le_refl t) (by omega) ht, R.round S I _, I, Lo.refl m⟩
    rw [f_Town_passRounds_12, S.i0, ob, R.v6, I.n6, hk, if_pos (i_le_rfl _), S.i0, ob, S.p0, ob, R.v7]
  | succ j ih =>
    intro k fuel c M m hk hf S I R W
    obtain ⟨fu, rfl⟩ : ∃ fu, fuel = fu + 1 := ⟨fuel - 1, by omega⟩
    have hk6 : k < cn m 6 := by omega
    have hb6 := I.b6
    obtain ⟨a, b, e1, e2, -, -, h1, h2, h3⟩ := I.xy hk6
    obtain ⟨K, g1, g2, g3⟩ := f_Town_meetOnce_eq S I R W ht hN h1 h2 h3
    obtain ⟨i1, i2⟩ := tieS_inv (lw := lw) I hl hk6 c
    rw [tieS_eq] at i1 i2
    dsimp only at i1 i2
    obtain ⟨r1, r2⟩ := R.E k hk6
    rw [lp_s, tieS_eq]
    rw [f_Town_passRounds_12, S.i0, ob, R.v6, I.n6, if_neg (iN_nle hk6 (by omega)), S.g_who, ob, S.a7 (by omega), ob, S.g_whom, ob, S.a8 (by omega), ob, S.c0, ob, r1, r2, e1, e2, g1, ob, iN_s]
    obtain ⟨K2, q1, q2, q3, q4, q5⟩ := ih (k + 1) fu (c + (meM lw m (tX m k) (tY m k)).1) K (meM lw m (tX m k) (tY m k)).2 (by rw [show cn (meM lw m (tX m k) (tY m k)).2 6 = cn m 6 from i2.c (by decide)]; omega) (by omega) (g2.shape S) i1 g3 (g2.wRel W)
    exact ⟨K2, q1, g2.trans q2, q3, q4, i2.trans q5⟩
theorem rndM_inv (I : Inv m) (hl : LwOK lw) (c : Int32) : Inv (rndM lw (c, m)).2 ∧ Lo m (rndM lw (c, m)).2 := by
  have key : ∀ (j k : Nat) (c : Int32) (m : Nat → Int32), k + j = cn m 6 → Inv m → Inv (lp (tieS lw) j k (c, m)).2 ∧ Lo m (lp (tieS lw) j k (c, m)).2 := by
    intro j
    induction j with
    | zero => intro k c m _ I; exact ⟨I, Lo.refl m⟩
    | succ j ih =>
      intro k c m hk I
      obtain ⟨i1, i2⟩ := tieS_inv (lw := lw) I hl (k := k) (by omega) c
      rw [tieS_eq] at i1 i2
      dsimp only at i1 i2
      rw [lp_s, tieS_eq]
      obtain ⟨i3, i4⟩ := ih (k + 1) (c + (meM lw m (tX m k) (tY m k)).1) (meM lw m (tX m k) (tY m k)).2 (by rw [show cn (meM lw m (tX m k) (tY m k)).2 6 = cn m 6 from i2.c (by decide)]; omega) i1
      exact ⟨i3, i2.trans i4⟩
  obtain ⟨i1, i2⟩ := key (cn m 6) 0 c m (by omega) I
  rw [rndM_eq]
  dsimp only
  exact ⟨i1.cgC fun k h1 h2 h3 => up1_ne (by omega), i2.trans fun k hk => up1_ne (by omega)⟩
theorem f_Town_passRounds_eq (S : Shape M t) (I : Inv m) (R : TRel M t m) (W : WRel M t B lw ln) (ht : t + 41 ≤ B) (hN : 500 < N) (hn : n ≤ 100) :
    ∃ K, f_Town_passRounds N t (iN n) M = some ((goM lw n (0, m)).1, K) ∧ Fr t 41 B M K ∧ TRel K t (goM lw n (0, m)).2 ∧ Inv (goM lw n (0, m)).2 ∧ Lo m (goM lw n (0, m)).2 := by
  unfold f_Town_passRounds goM
  have hl := W.ok
  have key : ∀ (j k fuel : Nat) (c : Int32) (M : Mem) (m : Nat → Int32), k + j = n → j < fuel → Shape M t → Inv m → TRel M t m → WRel M t B lw ln →
      ∃ K, f_Town_passRounds_4 N t (iN n) fuel c (iN k) M = some ((lp (fun _ z => rndM lw z) j k (c, m)).1, K) ∧ Fr t 41 B M K ∧ TRel K t (lp (fun _ z => rndM lw z) j k (c, m)).2 ∧ Inv (lp (fun _ z => rndM lw z) j k (c, m)).2 ∧ Lo m (lp (fun _ z => rndM lw z) j k (c, m)).2 := by
    intro j
    induction j with
    | zero =>
      intro k fuel c M m hk hf S I R W
      obtain ⟨fu, rfl⟩ : ∃ fu, fuel = fu + 1 := ⟨fuel - 1, by omega⟩
      obtain rfl : k = n := by omega
      rw [lp_z]
      refine ⟨M, ?_, Fr.refl, R, I, Lo.refl m⟩
      rw [f_Town_passRounds_4, if_pos (i_le_rfl _)]
    | succ j ih =>
      intro k fuel c M m hk hf S I R W
      obtain ⟨fu, rfl⟩ : ∃ fu, fuel = fu + 1 := ⟨fuel - 1, by omega⟩
      have hb6 := I.b6
      rw [f_Town_passRounds_4, if_neg (iN_nle (by omega) (by omega))]
      obtain ⟨K, g1, g2, g3, g4, g5⟩ := f_Town_passRounds_12_eq (N := N) ht hN hl (iN n) (iN k) (f_Town_passRounds_4 N t (iN n) fu) (cn m 6) 0 N c M m (by omega) (by omega) S I R W
      have g1b : f_Town_passRounds_12 N t (iN n) (f_Town_passRounds_4 N t (iN n) fu) N c (iN k) 0 M = f_Town_passRounds_4 N t (iN n) fu (lp (tieS lw) (cn m 6) 0 (c, m)).1 (iN k + 1) K := g1
      obtain ⟨i1, i2⟩ := rndM_inv (lw := lw) I hl c
      rw [rndM_eq] at i1 i2
      dsimp only at i1 i2
      rw [lp_s, rndM_eq]
      obtain ⟨K2, q1, q2, q3, q4, q5⟩ := ih (k + 1) fu (lp (tieS lw) (cn m 6) 0 (c, m)).1 K (up1 (lp (tieS lw) (cn m 6) 0 (c, m)).2 7 ((lp (tieS lw) (cn m 6) 0 (c, m)).2 7 + 1)) (by omega) (by omega) (g2.shape S) i1 g3 (g2.wRel W)
      refine ⟨K2, ?_, g2.trans q2, q3, q4, i2.trans q5⟩
      rw [g1b, iN_s]
      exact q1
  exact key n 0 N 0 M m (by omega) (by omega) S I R W
/-- the model -/
theorem f_R_goes_12_eq (hN : 500 < N) (hl : LwOK lw) (a0 x3 : Int32) (k4 : Int32 → Int32 → Rho → Option (Int32 × Rho)) : ∀ (j k fuel : Nat) (c : Int32) (r : Rho), k + j = cn (r.2 1) 6 → j < fuel → Inv (r.2 1) → RdOK N (r.2 1) lw →
    ∃ q, f_R_goes_12 N a0 k4 fuel c x3 (iN k) r = k4 (lp (tieS lw) j k (c, r.2 1)).1 (x3 + 1) q ∧ Sr (setM r (up1 (lp (tieS lw) j k (c, r.2 1)).2 7 ((lp (tieS lw) j k (c, r.2 1)).2 7 + 1))) q := by
  intro j
  induction j with
  | zero =>
    intro k fuel c r hk hf I K
    obtain ⟨fu, rfl⟩ : ∃ fu, fuel = fu + 1 := ⟨fuel - 1, by omega⟩
    have hk : k = cn (r.2 1) 6 := by omega
    rw [lp_z]
    refine ⟨setM r (up1 (r.2 1) 7 (r.2 1 7 + 1)), ?_, Sr.refl _⟩
    rw [f_R_goes_12, rlm6, ob, I.n6, hk, if_pos (i_le_rfl _), rlm7, ob, wrm7, ob]
  | succ j ih =>
    intro k fuel c r hk hf I K
    obtain ⟨fu, rfl⟩ : ∃ fu, fuel = fu + 1 := ⟨fuel - 1, by omega⟩
    have hk6 : k < cn (r.2 1) 6 := by omega
    have hb6 := I.b6
    obtain ⟨a, b, e1, e2, -, -, h1, h2, h3⟩ := I.xy hk6
    obtain ⟨q, g1, g2⟩ := f_R_meeting_eq (N := N) I K hN h1 h2 h3
    obtain ⟨i1, i2⟩ := tieS_inv (lw := lw) I hl hk6 c
    rw [tieS_eq] at i1 i2
    dsimp only at i1 i2
    rw [lp_s, tieS_eq]
    rw [f_R_goes_12, rlm6, ob, I.n6, if_neg (iN_nle hk6 (by omega)), who_k (by omega), ob, whom_k (by omega), ob, e1, e2, g1, ob, iN_s]
    have em : q.2 1 = (meM lw (r.2 1) (tX (r.2 1) k) (tY (r.2 1) k)).2 := g2.1.1.1
    obtain ⟨q2, w1, w2⟩ := ih (k + 1) fu (c + (meM lw (r.2 1) (tX (r.2 1) k) (tY (r.2 1) k)).1) q (by rw [em, show cn (meM lw (r.2 1) (tX (r.2 1) k) (tY (r.2 1) k)).2 6 = cn (r.2 1) 6 from i2.c (by decide)]; omega) (by omega) (by rw [em]; exact i1) (by rw [em]; exact i2.rd K)
    rw [em] at w1 w2
    refine ⟨q2, w1, ?_⟩
    · have w3 := (g2.putM (up1 (lp (tieS lw) j (k + 1) (c + (meM lw (r.2 1) (tX (r.2 1) k) (tY (r.2 1) k)).1, (meM lw (r.2 1) (tX (r.2 1) k) (tY (r.2 1) k)).2)).2 7 ((lp (tieS lw) j (k + 1) (c + (meM lw (r.2 1) (tX (r.2 1) k) (tY (r.2 1) k)).1, (meM lw (r.2 1) (tX (r.2 1) k) (tY (r.2 1) k)).2)).2 7 + 1)))
      rw [setM_setM] at w3
      exact w3.trans w2
theorem f_R_goes_eq (I : Inv (r.2 1)) (K : RdOK N (r.2 1) lw) (hl : LwOK lw) (hN : 500 < N) (hn : n ≤ 100) :
    ∃ q, f_R_goes N (iN n) r = some ((goM lw n (0, r.2 1)).1, q) ∧ Sr (setM r (goM lw n (0, r.2 1)).2) q := by
  unfold f_R_goes goM
  have key : ∀ (j k fuel : Nat) (c : Int32) (r : Rho), k + j = n → j < fuel → Inv (r.2 1) → RdOK N (r.2 1) lw →
      ∃ q, f_R_goes_4 N (iN n) fuel c (iN k) r = some ((lp (fun _ z => rndM lw z) j k (c, r.2 1)).1, q) ∧ Sr (setM r (lp (fun _ z => rndM lw z) j k (c, r.2 1)).2) q := by
    intro j
    induction j with
    | zero =>
      intro k fuel c r hk hf I K
      obtain ⟨fu, rfl⟩ : ∃ fu, fuel = fu + 1 := ⟨fuel - 1, by omega⟩
      obtain rfl : k = n := by omega
      rw [lp_z]
      refine ⟨r, ?_, ?_⟩
      · rw [f_R_goes_4, if_pos (i_le_rfl _)]
      · rw [setM_id]
        exact Sr.refl r
    | succ j ih =>
      intro k fuel c r hk hf I K
      obtain ⟨fu, rfl⟩ : ∃ fu, fuel = fu + 1 := ⟨fuel - 1, by omega⟩
      have hb6 := I.b6
      rw [f_R_goes_4, if_neg (iN_nle (by omega) (by omega))]
      obtain ⟨q, g1, g2⟩ := f_R_goes_12_eq (N := N) hN hl (iN n) (iN k) (f_R_goes_4 N (iN n) fu) (cn (r.2 1) 6) 0 N c r (by omega) (by omega) I K
      have g1b : f_R_goes_12 N (iN n) (f_R_goes_4 N (iN n) fu) N c (iN k) 0 r = f_R_goes_4 N (iN n) fu (lp (tieS lw) (cn (r.2 1) 6) 0 (c, r.2 1)).1 (iN k + 1) q := g1
      obtain ⟨i1, i2⟩ := rndM_inv (lw := lw) I hl c
      rw [rndM_eq] at i1 i2
      dsimp only at i1 i2
      rw [lp_s, rndM_eq]
      have em : q.2 1 = up1 (lp (tieS lw) (cn (r.2 1) 6) 0 (c, r.2 1)).2 7 ((lp (tieS lw) (cn (r.2 1) 6) 0 (c, r.2 1)).2 7 + 1) := g2.1.1.1
      obtain ⟨q2, w1, w2⟩ := ih (k + 1) fu (lp (tieS lw) (cn (r.2 1) 6) 0 (c, r.2 1)).1 q (by omega) (by omega) (by rw [em]; exact i1) (by rw [em]; exact i2.rd K)
      rw [em] at w1 w2
      refine ⟨q2, ?_, ?_⟩
      · rw [g1b, iN_s]
        exact w1
      · have w3 := g2.putM (lp (fun _ z => rndM lw z) j (k + 1) ((lp (tieS lw) (cn (r.2 1) 6) 0 (c, r.2 1)).1, up1 (lp (tieS lw) (cn (r.2 1) 6) 0 (c, r.2 1)).2 7 ((lp (tieS lw) (cn (r.2 1) 6) 0 (c, r.2 1)).2 7 + 1))).2
        rw [setM_setM] at w3
        exact w3.trans w2
  exact key n 0 N 0 r (by omega) (by omega) I K
end Ro
