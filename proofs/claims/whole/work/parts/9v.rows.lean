section Vr
variable {t p n o j k : Nat} {M K : Mem} {r q : Rho} {a b c d v : Int32} {m m1 m2 z : Nat → Int32}
theorem nx.le {i : Nat} (h : nx v n) (hi : n ≤ i) : nx v i := by
  obtain ⟨e, h1, h2⟩ := h
  exact ⟨e, by omega, h2⟩
/-- what is no cell of the lands -/
def ldC (k : Nat) : Prop := k ≠ 3 ∧ k ≠ 4 ∧ ¬ (13 ≤ k ∧ k ≤ 15) ∧ ¬ (20 ≤ k ∧ k < 92)
theorem ld_I (I : Inv m) (hm : ∀ k, ldC k → m2 k = m k) (hL : IL m2) (h3 : cn m 3 ≤ cn m2 3) : Inv m2 := by
  have lo : ∀ k, (92 ≤ k ∨ (5 ≤ k ∧ k ≤ 12) ∨ k = 0) → m2 k = m k := fun k hk => hm k ⟨by omega, by omega, by omega, by omega⟩
  have h5 := I.b5
  have c5 : cn m2 5 = cn m 5 := cn_cg (lo 5 (by omega))
  refine ⟨hL, ⟨by rw [lo 5 (by omega)]; exact I.2.1.1, fun p hp => ?_⟩, I.2.2.1.cg fun k hk => lo k (by omega), I.2.2.2.1.cg fun k hk => lo k (by omega), by rw [lo 0 (by omega)]; exact I.2.2.2.2⟩
  rw [c5] at hp
  obtain ⟨⟨u1, u2, u3, u4⟩, u5, u6, u7, u8⟩ := I.p hp
  have e : ∀ j, pC m2 p j = pC m p j := fun j => lo _ (by omega)
  have em : ∀ o, mt m2 p o = mt m p o := fun o => lo _ (by omega)
  have es : ∀ o, swC m2 p o = swC m p o := fun o => lo _ (by omega)
  refine ⟨⟨by rw [e]; exact u1.le h3, by rw [e]; exact u2, by rw [e]; exact u3, by rw [e]; exact u4⟩, by rw [e]; exact u5, by rw [e, hadM_cg fun o _ => em o]; exact u6, fun o ho => by rw [es]; exact u7 o ho, fun o h9 ho => ?_⟩
  rw [c5] at h9
  rw [em, es]
  exact u8 o h9 ho
theorem ld_T (R : TRel M t m) (I : Inv m) (hm : ∀ k, ldC k → m2 k = m k) (L : LRel K t m2) (ko : ∀ b, t ≤ b → b < t + 41 → (b = t ∨ t + 6 ≤ b) → m_iv K b = m_iv M b) : TRel K t m2 := by
  have lo : ∀ k, (92 ≤ k ∨ (5 ≤ k ∧ k ≤ 12) ∨ (16 ≤ k ∧ k < 20) ∨ k = 0) → m2 k = m k := fun k hk => hm k ⟨by omega, by omega, by omega, by omega⟩
  have b6 := I.b6
  have c5 : cn m2 5 = cn m 5 := cn_cg (lo 5 (by omega))
  refine ⟨L, ?_, fun g hg => ?_, fun k hk => ?_, ?_⟩
  · unfold CRel
    rw [ko t (by omega) (by omega) (by omega), lo 5 (by omega), lo 6 (by omega), lo 0 (by omega), lo 16 (by omega), lo 7 (by omega), lo 8 (by omega), lo 9 (by omega), lo 10 (by omega), lo 11 (by omega)]
    exact R.C
  · exact (R.P hg).mk hg (fun b h1 h2 => ko b (by omega) (by omega) (by omega)) c5 (fun j hj => lo _ (by omega)) (fun o ho => ⟨lo _ (by omega), lo _ (by omega)⟩) (tdS_cg b6 (fun k hk => lo k (by omega)) g)
  · rw [cn_cg (lo 6 (by omega))] at hk
    unfold tA tB
    rw [ko _ (by omega) (by omega) (by omega), ko _ (by omega) (by omega) (by omega), lo _ (by omega), lo _ (by omega)]
    exact R.E k hk
  · obtain ⟨g1, w, g2, g3, g4⟩ := R.G
    refine ⟨?_, w, g2, ?_, fun k j hk hj => ?_⟩
    · rw [ko _ (by omega) (by omega) (by omega), lo 12 (by omega)]; exact g1
    · rw [ko _ (by omega) (by omega) (by omega)]; exact g3
    · rw [cn_cg (lo 12 (by omega))] at hk
      rw [ko _ (by omega) (by omega) (by omega), g4 k j hk hj]
      exact (lo _ (by omega)).symm
/-! one land more -/
theorem land_T (R : TRel M t m) (I : Inv m) (h : cn m 3 < 6) : Inv (up1 m 3 (m 3 + 1)) ∧ TRel (m_setI M (t + 1) 1 (m 3 + 1)) t (up1 m 3 (m 3 + 1)) := by
  have e3 : m 3 + 1 = iN (cn m 3 + 1) := by
    have := I.n3
    rw [this, iN_s]
  have lo : ∀ k, k ≠ 3 → up1 m 3 (m 3 + 1) k = m k := fun k hk => up1_ne hk
  have c3 : cn (up1 m 3 (m 3 + 1)) 3 = cn m 3 + 1 := by
    unfold cn
    rw [up1_same, e3, iN_cl (by omega)]
    rfl
  obtain ⟨⟨i1, i2⟩, i3, i4⟩ := id I.1
  refine ⟨ld_I I (fun k hk => lo k hk.1) ⟨⟨by rw [up1_same, e3]; exact ⟨_, by omega, rfl⟩, by rw [lo 4 (by decide)]; exact i2⟩, by rw [lo 13 (by decide), lo 14 (by decide), lo 15 (by decide)]; exact i3, fun k hk => ?_⟩ (by omega), ld_T R I (fun k hk => lo k hk.1) ⟨?_, ?_, ?_, fun k hk => ?_⟩ fun b h1 h2 h3 => iv_ne (by omega)⟩
  · rw [cn_cg (lo 4 (by decide))] at hk
    rw [lo _ (by omega), lo _ (by omega), lo _ (by omega), c3]
    exact ⟨(i4 k hk).1.le (by omega), (i4 k hk).2⟩
  · rw [iv_same, up1_same, up1_same]
  · rw [iv_same, up1_ne (by decide), lo 4 (by decide)]; exact R.v4
  · rw [iv_ne (by omega), lo 13 (by decide), lo 14 (by decide), lo 15 (by decide)]; exact R.1.2.2.1
  · rw [cn_cg (lo 4 (by decide))] at hk
    rw [iv_ne (by omega), iv_ne (by omega), iv_ne (by omega), lo _ (by omega), lo _ (by omega), lo _ (by omega)]
    exact R.hab hk
/-! a price -/
theorem price_T (R : TRel M t m) (I : Inv m) (hj : j < 3) (hv : nb v 99) : Inv (up1 m (13 + j) v) ∧ TRel (m_setI M (t + 2) j v) t (up1 m (13 + j) v) := by
  have lo : ∀ k, ¬ (13 ≤ k ∧ k ≤ 15) → up1 m (13 + j) v k = m k := fun k hk => up1_ne (by omega)
  obtain ⟨⟨i1, i2⟩, ⟨i3, i4, i5⟩, i6⟩ := id I.1
  have pr : ∀ i, nb (m (13 + i)) 99 → nb (up1 m (13 + j) v (13 + i)) 99 := fun i h => by
    rw [up1_at]
    by_cases hi : 13 + i = 13 + j
    · rw [if_pos hi]; exact hv
    · rw [if_neg hi]; exact h
  have pe : ∀ i, m_iv M (t + 2) i = m (13 + i) → m_iv (m_setI M (t + 2) j v) (t + 2) i = up1 m (13 + j) v (13 + i) := fun i h => by
    rw [iv_same, up1_at, up1_at]
    by_cases hi : i = j
    · rw [if_pos hi, if_pos (by omega)]
    · rw [if_neg hi, if_neg (by omega), h]
  refine ⟨ld_I I (fun k hk => lo k hk.2.2.1) ⟨⟨by rw [lo 3 (by omega)]; exact i1, by rw [lo 4 (by omega)]; exact i2⟩, ⟨pr 0 i3, pr 1 i4, pr 2 i5⟩, fun k hk => ?_⟩ (by rw [cn_cg (lo 3 (by omega))]; exact Nat.le_refl _), ld_T R I (fun k hk => lo k hk.2.2.1) ⟨?_, ?_, ⟨pe 0 R.1.2.2.1.1, pe 1 R.1.2.2.1.2.1, pe 2 R.1.2.2.1.2.2⟩, fun k hk => ?_⟩ fun b h1 h2 h3 => iv_ne (by omega)⟩
  · rw [cn_cg (lo 4 (by omega))] at hk
    rw [lo _ (by omega), lo _ (by omega), lo _ (by omega), cn_cg (lo 3 (by omega))]
    exact i6 k hk
  · rw [iv_ne (by omega), lo 3 (by omega)]; exact R.v3
  · rw [iv_ne (by omega), lo 4 (by omega)]; exact R.v4
  · rw [cn_cg (lo 4 (by omega))] at hk
    rw [iv_ne (by omega), iv_ne (by omega), iv_ne (by omega), lo _ (by omega), lo _ (by omega), lo _ (by omega)]
    exact R.hab hk
/-! a habit more -/
def hbM (m : Nat → Int32) (n : Nat) (a b c : Int32) : Nat → Int32 := up1 (up1 (up1 (up1 m (20 + 3 * n) a) (20 + 3 * n + 1) b) (20 + 3 * n + 2) c) 4 (iN (n + 1))
def hbK (M : Mem) (t n : Nat) (a b c : Int32) : Mem := m_setI (m_setI (m_setI (m_setI M (t + 3) n a) (t + 4) n b) (t + 5) n c) (t + 1) 2 (iN (n + 1))
theorem hbM_o (hn : n < 24) (h : k ≠ 4) (h2 : ¬ (20 ≤ k ∧ k < 92)) : hbM m n a b c k = m k := by
  unfold hbM
  rw [up1_ne h, up1_ne (by omega), up1_ne (by omega), up1_ne (by omega)]
theorem hbM_k (hn : n < 24) (hk : k ≤ n) : hbM m n a b c (20 + 3 * k) = (if k = n then a else m (20 + 3 * k)) ∧ hbM m n a b c (21 + 3 * k) = (if k = n then b else m (21 + 3 * k)) ∧ hbM m n a b c (22 + 3 * k) = (if k = n then c else m (22 + 3 * k)) := by
  unfold hbM
  by_cases h : k = n
  · subst h
    rw [if_pos rfl, if_pos rfl, if_pos rfl]
    refine ⟨?_, ?_, ?_⟩
    · rw [up1_ne (by omega), up1_ne (by omega), up1_ne (by omega), up1_same]
    · rw [up1_ne (by omega), up1_ne (by omega), show 21 + 3 * k = 20 + 3 * k + 1 by omega, up1_same]
    · rw [up1_ne (by omega), show 22 + 3 * k = 20 + 3 * k + 2 by omega, up1_same]
  · rw [if_neg h, if_neg h, if_neg h]
    refine ⟨?_, ?_, ?_⟩ <;> rw [up1_ne (by omega), up1_ne (by omega), up1_ne (by omega), up1_ne (by omega)]
theorem hab_T (R : TRel M t m) (I : Inv m) (hn : m 4 = iN n) (h : n < 24) (ha : nx a (cn m 3)) (hb : nx b 32) (hc : nb c 9) (hc0 : c ≠ 0) : Inv (hbM m n a b c) ∧ TRel (hbK M t n a b c) t (hbM m n a b c) := by
  have lo : ∀ k, k ≠ 4 → ¬ (20 ≤ k ∧ k < 92) → hbM m n a b c k = m k := fun k h1 h2 => hbM_o h h1 h2
  have e4 : hbM m n a b c 4 = iN (n + 1) := up1_same _ _ _
  have c4 : cn (hbM m n a b c) 4 = n + 1 := by
    unfold cn
    rw [e4, iN_cl (by omega)]
  have c4' : cn m 4 = n := by
    unfold cn
    rw [hn, iN_cl (by omega)]
  obtain ⟨⟨i1, i2⟩, i3, i6⟩ := id I.1
  refine ⟨ld_I I (fun k hk => lo k hk.2.1 hk.2.2.2) ⟨⟨by rw [lo 3 (by decide) (by omega)]; exact i1, by rw [e4]; exact ⟨_, by omega, rfl⟩⟩, by rw [lo 13 (by decide) (by omega), lo 14 (by decide) (by omega), lo 15 (by decide) (by omega)]; exact i3, fun k hk => ?_⟩ (by rw [cn_cg (lo 3 (by decide) (by omega))]; exact Nat.le_refl _), ld_T R I (fun k hk => lo k hk.2.1 hk.2.2.2) ⟨?_, ?_, ?_, fun k hk => ?_⟩ fun b h1 h2 h3 => by unfold hbK; rw [iv_ne (by omega), iv_ne (by omega), iv_ne (by omega), iv_ne (by omega)]⟩
  · rw [c4] at hk
    obtain ⟨e1, e2, e3⟩ := hbM_k (m := m) (a := a) (b := b) (c := c) h (show k ≤ n by omega)
    rw [e1, e2, e3, cn_cg (lo 3 (by decide) (by omega))]
    by_cases hkn : k = n
    · rw [if_pos hkn, if_pos hkn, if_pos hkn]; exact ⟨ha, hb, hc, hc0⟩
    · rw [if_neg hkn, if_neg hkn, if_neg hkn]; exact i6 k (by omega)
  · unfold hbK
    rw [iv_same, up1_ne (by decide), iv_ne (by omega), iv_ne (by omega), iv_ne (by omega), lo 3 (by decide) (by omega)]; exact R.v3
  · unfold hbK
    rw [iv_same, up1_same, e4]
  · unfold hbK
    rw [iv_ne (by omega), iv_ne (by omega), iv_ne (by omega), iv_ne (by omega), lo 13 (by decide) (by omega), lo 14 (by decide) (by omega), lo 15 (by decide) (by omega)]; exact R.1.2.2.1
  · rw [c4] at hk
    obtain ⟨e1, e2, e3⟩ := hbM_k (m := m) (a := a) (b := b) (c := c) h (show k ≤ n by omega)
    rw [e1, e2, e3]
    have k3 : m_iv (hbK M t n a b c) (t + 3) k = if k = n then a else m_iv M (t + 3) k := by
      unfold hbK
      rw [iv_ne (by omega), iv_ne (by omega), iv_ne (by omega), iv_same, up1_at]
    have k4 : m_iv (hbK M t n a b c) (t + 4) k = if k = n then b else m_iv M (t + 4) k := by
      unfold hbK
      rw [iv_ne (by omega), iv_ne (by omega), iv_same, up1_at, iv_ne (by omega)]
    have k5 : m_iv (hbK M t n a b c) (t + 5) k = if k = n then c else m_iv M (t + 5) k := by
      unfold hbK
      rw [iv_ne (by omega), iv_same, up1_at, iv_ne (by omega), iv_ne (by omega)]
    rw [k3, k4, k5]
    by_cases hkn : k = n
    · rw [if_pos hkn, if_pos hkn, if_pos hkn, if_pos hkn, if_pos hkn, if_pos hkn]; exact ⟨rfl, rfl, rfl⟩
    · rw [if_neg hkn, if_neg hkn, if_neg hkn, if_neg hkn, if_neg hkn, if_neg hkn]; exact R.hab (by omega)
theorem addHabit_eq (S : Shape M t) (h4 : m_iv M (t + 1) 2 = iN n) (hn : n < 24) (a b c : Int32) : f_Lands_addHabit (t + 1) a b c M = some (hbK M t n a b c) := by
  have S1 : Shape (m_setI M (t + 3) n a) t := S
  have S2 : Shape (m_setI (m_setI M (t + 3) n a) (t + 4) n b) t := S
  have S3 : Shape (m_setI (m_setI (m_setI M (t + 3) n a) (t + 4) n b) (t + 5) n c) t := S
  unfold f_Lands_addHabit hbK
  rw [S.i1, ob, h4, if_neg (show ¬ (24 : Int32) ≤ iN n from iN_nle (n := 24) hn (by decide)), S.g_hland, ob, ob, S.s3 hn, ob, S1.g_hgreet, ob, S1.i1, ob, iv_ne (by omega), h4, S1.s4 hn, ob, S2.g_hweight, ob, S2.i1, ob, iv_ne (by omega), iv_ne (by omega), h4, S2.s5 hn, ob, S3.i1, ob, iv_ne (by omega), iv_ne (by omega), iv_ne (by omega), h4, S3.p1, ob, iN_s]
/-! one person more -/
def ppS (n o : Nat) (z : Nat → Int32) : Nat → Int32 := up1 (up1 (up1 (up1 z (172 + 10 * n + o) 0) (272 + 10 * n + o) (-1)) (172 + 10 * o + n) 0) (272 + 10 * o + n) (-1)
def pp8 (m : Nat → Int32) (n : Nat) (a b c d : Int32) : Nat → Int32 := up1 (up1 (up1 (up1 (up1 (up1 (up1 (up1 m (92 + 8 * n + 0) a) (92 + 8 * n + 1) b) (92 + 8 * n + 2) c) (92 + 8 * n + 3) d) (92 + 8 * n + 4) 0) (92 + 8 * n + 5) 0) (92 + 8 * n + 6) (-1)) (92 + 8 * n + 7) (-1)
def ppM (m : Nat → Int32) (n : Nat) (a b c d : Int32) : Nat → Int32 := up1 (lp (ppS n) 10 0 (pp8 m n a b c d)) 5 (iN (n + 1))
def ppK (M : Mem) (t n : Nat) (a b c d : Int32) : Mem := m_setI (m_setI (m_setI (m_setI (m_setI M (t + 11 + 3 * n) 0 a) (t + 11 + 3 * n) 1 b) (t + 11 + 3 * n) 2 c) (t + 11 + 3 * n) 3 d) t 2 (iN (n + 1))
theorem ppS_at (hn : n < 10) : ∀ j, j ≤ 10 → (∀ p o, p < 10 → o < 10 → mt (lp (ppS n) j 0 z) p o = (if (p = n ∧ o < j) ∨ (o = n ∧ p < j) then 0 else mt z p o) ∧ swC (lp (ppS n) j 0 z) p o = (if (p = n ∧ o < j) ∨ (o = n ∧ p < j) then -1 else swC z p o)) ∧ ∀ k, k < 172 ∨ 372 ≤ k → lp (ppS n) j 0 z k = z k := by
  intro j
  induction j with
  | zero =>
    intro _
    refine ⟨fun p o _ _ => ?_, fun k _ => rfl⟩
    rw [if_neg (by omega), if_neg (by omega)]
    exact ⟨rfl, rfl⟩
  | succ j ih =>
    intro hj
    obtain ⟨h1, h2⟩ := ih (by omega)
    rw [lp_snoc, Nat.zero_add]
    generalize lp (ppS n) j 0 z = y at *
    refine ⟨fun p o hp ho => ?_, fun k hk => ?_⟩
    · obtain ⟨g1, g2⟩ := h1 p o hp ho
      have e1 : mt (ppS n j y) p o = if (p = n ∧ o = j) ∨ (o = n ∧ p = j) then 0 else mt y p o := by
        unfold mt ppS
        rw [up1_ne (by omega), up1_at, up1_ne (by omega), up1_at]
        by_cases c1 : o = n ∧ p = j
        · rw [if_pos (by omega), if_pos (Or.inr c1)]
        · rw [if_neg (by omega)]
          by_cases c2 : p = n ∧ o = j
          · rw [if_pos (by omega), if_pos (Or.inl c2)]
          · rw [if_neg (by omega), if_neg (by omega)]
      have e2 : swC (ppS n j y) p o = if (p = n ∧ o = j) ∨ (o = n ∧ p = j) then -1 else swC y p o := by
        unfold swC ppS
        rw [up1_at, up1_ne (by omega), up1_at, up1_ne (by omega)]
        by_cases c1 : o = n ∧ p = j
        · rw [if_pos (by omega), if_pos (Or.inr c1)]
        · rw [if_neg (by omega)]
          by_cases c2 : p = n ∧ o = j
          · rw [if_pos (by omega), if_pos (Or.inl c2)]
          · rw [if_neg (by omega), if_neg (by omega)]
      rw [e1, e2, g1, g2]
      by_cases c1 : (p = n ∧ o = j) ∨ (o = n ∧ p = j)
      · rw [if_pos c1, if_pos c1, if_pos (by omega), if_pos (by omega)]
        exact ⟨rfl, rfl⟩
      · rw [if_neg c1, if_neg c1]
        by_cases c2 : (p = n ∧ o < j) ∨ (o = n ∧ p < j)
        · rw [if_pos c2, if_pos c2, if_pos (by omega), if_pos (by omega)]
          exact ⟨rfl, rfl⟩
        · rw [if_neg c2, if_neg c2, if_neg (by omega), if_neg (by omega)]
          exact ⟨rfl, rfl⟩
    · unfold ppS
      rw [up1_ne (by omega), up1_ne (by omega), up1_ne (by omega), up1_ne (by omega)]
      exact h2 k hk
theorem pp8_o (hk : k < 92 + 8 * n ∨ 100 + 8 * n ≤ k) : pp8 m n a b c d k = m k := by
  unfold pp8
  rw [up1_ne (by omega), up1_ne (by omega), up1_ne (by omega), up1_ne (by omega), up1_ne (by omega), up1_ne (by omega), up1_ne (by omega), up1_ne (by omega)]
theorem ppM_o (hn : n < 10) (hk : k < 92 ∨ 372 ≤ k) (h5 : k ≠ 5) : ppM m n a b c d k = m k := by
  unfold ppM
  rw [up1_ne h5, (ppS_at hn 10 (by decide)).2 k (by omega), pp8_o (by omega)]
theorem ppM_p (hn : n < 10) (hp : p < 10) (hpn : p ≠ n) (hj : j < 8) : pC (ppM m n a b c d) p j = pC m p j := by
  unfold ppM pC
  rw [up1_ne (by omega), (ppS_at hn 10 (by decide)).2 _ (by omega), pp8_o (by omega)]
theorem ppM_n (hn : n < 10) : (pC (ppM m n a b c d) n 0 = a ∧ pC (ppM m n a b c d) n 1 = b ∧ pC (ppM m n a b c d) n 2 = c ∧ pC (ppM m n a b c d) n 3 = d) ∧ pC (ppM m n a b c d) n 4 = 0 ∧ pC (ppM m n a b c d) n 5 = 0 ∧ pC (ppM m n a b c d) n 6 = -1 ∧ pC (ppM m n a b c d) n 7 = -1 := by
  have e : ∀ j, j < 8 → pC (ppM m n a b c d) n j = pp8 m n a b c d (92 + 8 * n + j) := fun j hj => by
    unfold ppM pC
    rw [up1_ne (by omega), (ppS_at hn 10 (by decide)).2 _ (by omega)]
  rw [e 0 (by decide), e 1 (by decide), e 2 (by decide), e 3 (by decide), e 4 (by decide), e 5 (by decide), e 6 (by decide), e 7 (by decide)]
  unfold pp8
  refine ⟨⟨?_, ?_, ?_, ?_⟩, ?_, ?_, ?_, ?_⟩
  · rw [up1_ne (by omega), up1_ne (by omega), up1_ne (by omega), up1_ne (by omega), up1_ne (by omega), up1_ne (by omega), up1_ne (by omega), up1_same]
  · rw [up1_ne (by omega), up1_ne (by omega), up1_ne (by omega), up1_ne (by omega), up1_ne (by omega), up1_ne (by omega), up1_same]
  · rw [up1_ne (by omega), up1_ne (by omega), up1_ne (by omega), up1_ne (by omega), up1_ne (by omega), up1_same]
  · rw [up1_ne (by omega), up1_ne (by omega), up1_ne (by omega), up1_ne (by omega), up1_same]
  · rw [up1_ne (by omega), up1_ne (by omega), up1_ne (by omega), up1_same]
  · rw [up1_ne (by omega), up1_ne (by omega), up1_same]
  · rw [up1_ne (by omega), up1_same]
  · rw [up1_same]
theorem ppM_m (hn : n < 10) (hp : p < 10) (ho : o < 10) : mt (ppM m n a b c d) p o = (if p = n ∨ o = n then 0 else mt m p o) ∧ swC (ppM m n a b c d) p o = (if p = n ∨ o = n then -1 else swC m p o) := by
  obtain ⟨h1, h2⟩ := (ppS_at (z := pp8 m n a b c d) hn 10 (by decide)).1 p o hp ho
  have e1 : mt (ppM m n a b c d) p o = mt (lp (ppS n) 10 0 (pp8 m n a b c d)) p o := up1_ne (by omega)
  have e2 : swC (ppM m n a b c d) p o = swC (lp (ppS n) 10 0 (pp8 m n a b c d)) p o := up1_ne (by omega)
  have e3 : mt (pp8 m n a b c d) p o = mt m p o := pp8_o (by omega)
  have e4 : swC (pp8 m n a b c d) p o = swC m p o := pp8_o (by omega)
  rw [e1, e2, h1, h2, e3, e4]
  by_cases c1 : p = n ∨ o = n
  · rw [if_pos c1, if_pos c1, if_pos (by omega), if_pos (by omega)]
    exact ⟨rfl, rfl⟩
  · rw [if_neg c1, if_neg c1, if_neg (by omega), if_neg (by omega)]
    exact ⟨rfl, rfl⟩
end Vr
