section Vp
variable {N t p n o j k : Nat} {M K : Mem} {r q : Rho} {a b c d v : Int32} {m m1 m2 z : Nat → Int32}
theorem had0 (h : ∀ o, o < 10 → mt m p o = 0) : hadM m p = 0 := by
  have : hadM m p = hadM (fun _ => 0) p := hadM_cg (m := fun _ => 0) fun o ho => (h o ho).trans rfl
  rw [this]
  exact (by decide : lp (fun (_ : Nat) (z : Int32) => z + 0) 10 0 0 = 0)
theorem setB_none {f : Nat → Bool} : ∀ {i : Nat}, (∀ k, k < i → f k = false) → setB f i = 0 := by
  intro i
  induction i with
  | zero => intro _; rfl
  | succ i ih =>
    intro h
    show (if f i = true then setB f i ||| ((1 : Int32) <<< (iN i &&& 31)) else setB f i) = 0
    rw [h i (by omega), if_neg (by decide)]
    exact ih fun k hk => h k (by omega)
theorem setB_more {f : Nat → Bool} {i : Nat} (h : f i = false) : setB f (i + 1) = setB f i := by
  show (if f i = true then setB f i ||| ((1 : Int32) <<< (iN i &&& 31)) else setB f i) = setB f i
  rw [h, if_neg (by decide)]
theorem pp_T (R : TRel M t m) (I : Inv m) (hn : m 5 = iN n) (h : n < 10) (ha : nx a (cn m 3)) (hb : nx b 32) (hc : nb c 9) (hd : nb d 100) : Inv (ppM m n a b c d) ∧ TRel (ppK M t n a b c d) t (ppM m n a b c d) := by
  have b6 := I.b6
  have b4 := I.b4
  have b12 := I.b12
  have c5' : cn m 5 = n := by
    unfold cn
    rw [hn, iN_cl (by omega)]
  have e5 : ppM m n a b c d 5 = iN (n + 1) := up1_same _ _ _
  have c5 : cn (ppM m n a b c d) 5 = n + 1 := by
    unfold cn
    rw [e5, iN_cl (by omega)]
  have lo : ∀ k, k < 92 ∨ 372 ≤ k → k ≠ 5 → ppM m n a b c d k = m k := fun k h1 h2 => ppM_o h h1 h2
  have td : ∀ e g, tdB (ppM m n a b c d) e g = tdB m e g := fun e g => tdB_cg b6 (fun k hk => lo k (by omega) (by omega)) e g
  have tdn : ∀ e, e < 100 → tdB m n e = false ∧ tdB m e n = false := fun e he => by
    constructor
    · cases hh : tdB m n e
      · rfl
      · have := (I.td (a := n) (b := e) (by omega) he hh).1
        omega
    · cases hh : tdB m e n
      · rfl
      · have := (I.td (a := e) (b := n) he (by omega) hh).2.1
        omega
  have m0 : ∀ p, p < n → ∀ o, o < 10 → mt (ppM m n a b c d) p o = mt m p o ∧ swC (ppM m n a b c d) p o = swC m p o := fun p hp o ho => by
    obtain ⟨e1, e2⟩ := ppM_m (m := m) (a := a) (b := b) (c := c) (d := d) h (show p < 10 by omega) ho
    rw [e1, e2]
    by_cases hon : o = n
    · obtain ⟨u1, u2⟩ := (I.p (p := p) (by omega)).2.2.2.2 o (by omega) ho
      rw [if_pos (Or.inr hon), if_pos (Or.inr hon), u1, u2]
      exact ⟨rfl, rfl⟩
    · rw [if_neg (by omega), if_neg (by omega)]
      exact ⟨rfl, rfl⟩
  have mn : ∀ o, o < 10 → mt (ppM m n a b c d) n o = 0 ∧ swC (ppM m n a b c d) n o = -1 := fun o ho => by
    obtain ⟨e1, e2⟩ := ppM_m (m := m) (a := a) (b := b) (c := c) (d := d) h h ho
    rw [e1, e2, if_pos (Or.inl rfl), if_pos (Or.inl rfl)]
    exact ⟨rfl, rfl⟩
  obtain ⟨⟨w0, w1, w2, w3⟩, w4, w5, w6, w7⟩ := ppM_n (m := m) (a := a) (b := b) (c := c) (d := d) h
  refine ⟨⟨I.1.cg fun k hk => lo k (by omega) (by omega), ⟨by rw [e5]; exact ⟨_, by omega, rfl⟩, fun p hp => ?_⟩, ?_, I.2.2.2.1.cg fun k hk => lo k (by omega) (by omega), by rw [lo 0 (by omega) (by omega)]; exact I.2.2.2.2⟩, ⟨?_, ?_, ?_, fun k hk => ?_⟩, ?_, fun g hg => ?_, fun k hk => ?_, ?_⟩
  · -- IP1
    rw [c5] at hp
    by_cases hpn : p = n
    · subst hpn
      refine ⟨⟨by rw [w0, cn_cg (lo 3 (by omega) (by omega))]; exact ha, by rw [w1]; exact hb, by rw [w2]; exact hc, by rw [w3]; exact hd⟩, Or.inl w4, by rw [w5, had0 fun o ho => (mn o ho).1], fun o ho => Or.inl (mn o ho).2, fun o _ ho => mn o ho⟩
    · obtain ⟨⟨u1, u2, u3, u4⟩, u5, u6, u7, u8⟩ := I.p (p := p) (by omega)
      have e : ∀ j, j < 8 → pC (ppM m n a b c d) p j = pC m p j := fun j hj => ppM_p h (by omega) hpn hj
      have em := m0 p (by omega)
      refine ⟨⟨by rw [e 0 (by decide), cn_cg (lo 3 (by omega) (by omega))]; exact u1, by rw [e 1 (by decide)]; exact u2, by rw [e 2 (by decide)]; exact u3, by rw [e 3 (by decide)]; exact u4⟩, by rw [e 4 (by decide)]; exact u5, by rw [e 5 (by decide), hadM_cg fun o ho => (em o ho).1]; exact u6, fun o ho => by rw [(em o ho).2]; exact u7 o ho, fun o h9 ho => ?_⟩
      rw [c5] at h9
      rw [(em o ho).1, (em o ho).2]
      exact u8 o (by omega) ho
  · -- IT
    obtain ⟨t1, t2, t3⟩ := I.2.2.1
    have c6 : cn (ppM m n a b c d) 6 = cn m 6 := cn_cg (lo 6 (by omega) (by omega))
    refine ⟨by rw [lo 6 (by omega) (by omega)]; exact t1, fun k hk => ?_, fun j k hj hk => ?_⟩
    · rw [c6] at hk
      obtain ⟨x, y, h1, h2, h3, h4⟩ := t2 k hk
      refine ⟨x, y, by omega, by omega, h3, ?_⟩
      unfold tieOf tA tB at h4 ⊢
      rw [lo _ (by omega) (by omega), lo _ (by omega) (by omega)]
      exact h4
    · rw [c6] at hk
      have := t3 j k hj hk
      unfold tA tB at this ⊢
      rw [lo _ (by omega) (by omega), lo _ (by omega) (by omega), lo _ (by omega) (by omega), lo _ (by omega) (by omega)]
      exact this
  · unfold ppK
    rw [iv_ne (by omega), iv_ne (by omega), iv_ne (by omega), iv_ne (by omega), iv_ne (by omega), lo 3 (by omega) (by omega)]; exact R.v3
  · unfold ppK
    rw [iv_ne (by omega), iv_ne (by omega), iv_ne (by omega), iv_ne (by omega), iv_ne (by omega), lo 4 (by omega) (by omega)]; exact R.v4
  · unfold ppK
    rw [iv_ne (by omega), iv_ne (by omega), iv_ne (by omega), iv_ne (by omega), iv_ne (by omega), lo 13 (by omega) (by omega), lo 14 (by omega) (by omega), lo 15 (by omega) (by omega)]; exact R.1.2.2.1
  · rw [cn_cg (lo 4 (by omega) (by omega))] at hk
    have ie : ∀ i, i < 6 → i ≠ 0 → m_iv (ppK M t n a b c d) (t + i) = m_iv M (t + i) := fun i h1 h2 => by
      unfold ppK
      rw [iv_ne (by omega), iv_ne (by omega), iv_ne (by omega), iv_ne (by omega), iv_ne (by omega)]
    rw [ie 3 (by decide) (by decide), ie 4 (by decide) (by decide), ie 5 (by decide) (by decide), lo _ (by omega) (by omega), lo _ (by omega) (by omega), lo _ (by omega) (by omega)]
    exact R.hab hk
  · have ie : ∀ j, m_iv (ppK M t n a b c d) t j = if j = 2 then iN (n + 1) else m_iv M t j := fun j => by
      unfold ppK
      rw [iv_same, up1_at, iv_ne (by omega), iv_ne (by omega), iv_ne (by omega), iv_ne (by omega)]
    refine ⟨by rw [ie, if_pos rfl, e5], ?_, ?_, ?_, ?_, ?_, ?_, ?_, ?_⟩
    · rw [ie, if_neg (by decide), lo 6 (by omega) (by omega)]; exact R.v6
    · rw [ie, if_neg (by decide), lo 0 (by omega) (by omega)]; exact R.v0
    · rw [ie, if_neg (by decide), lo 16 (by omega) (by omega)]; exact R.v16
    · rw [ie, if_neg (by decide), lo 7 (by omega) (by omega)]; exact R.v7
    · rw [ie, if_neg (by decide), lo 8 (by omega) (by omega)]; exact R.v8
    · rw [ie, if_neg (by decide), lo 9 (by omega) (by omega)]; exact R.v9
    · rw [ie, if_neg (by decide), lo 10 (by omega) (by omega)]; exact R.v10
    · rw [ie, if_neg (by decide), lo 11 (by omega) (by omega)]; exact R.v11
  · -- PRel
    have i2 : ∀ e, t + 11 < e → e ≠ t + 11 + 3 * n → m_iv (ppK M t n a b c d) e = m_iv M e := fun e h1 h2 => by
      unfold ppK
      rw [iv_ne (by omega), iv_ne (by omega), iv_ne (by omega), iv_ne (by omega), iv_ne (by omega)]
    have i3 : ∀ g, g ≠ n → m_iv (ppK M t n a b c d) (t + 11 + 3 * g) = m_iv M (t + 11 + 3 * g) := fun g h1 => by
      unfold ppK
      rw [iv_ne (by omega), iv_ne (by omega), iv_ne (by omega), iv_ne (by omega), iv_ne (by omega)]
    have P := R.P hg
    by_cases hgn : g = n
    · subst hgn
      obtain ⟨u4, u5, u6, u7, u8⟩ := P.2 (by omega)
      have ie : ∀ j, m_iv (ppK M t g a b c d) (t + 11 + 3 * g) j = if j = 3 then d else if j = 2 then c else if j = 1 then b else if j = 0 then a else m_iv M (t + 11 + 3 * g) j := fun j => by
        unfold ppK
        rw [iv_ne (by omega), iv_same, up1_at, iv_same, up1_at, iv_same, up1_at, iv_same, up1_at]
      refine ⟨fun _ => ⟨⟨?_, ?_, ?_, ?_⟩, ?_, ?_, ⟨?_, ?_⟩, fun o ho => ?_⟩, fun h9 => ?_⟩
      · rw [ie, w0]; rfl
      · rw [ie, w1]; rfl
      · rw [ie, w2]; rfl
      · rw [ie, w3]; rfl
      · rw [ie, w4]; exact u4
      · rw [ie]
        refine u5.trans (Eq.symm ?_)
        unfold tdS
        rw [c5]
        exact setB_none fun k hk => by rw [td]; exact (tdn k (by omega)).1
      · rw [ie, w6]; exact u6
      · rw [ie, w7]; exact u7
      · rw [i2 _ (by omega) (by omega), i2 _ (by omega) (by omega), (mn o ho).1, (mn o ho).2]
        exact u8 o ho
      · rw [c5] at h9
        omega
    · refine ⟨fun h9 => ?_, fun h9 => ?_⟩
      · rw [c5] at h9
        obtain ⟨u1, u2, u3, u4, u5⟩ := P.1 (by omega)
        have e : ∀ j, j < 8 → pC (ppM m n a b c d) g j = pC m g j := fun j hj => ppM_p h hg hgn hj
        rw [i3 g hgn, i2 _ (by omega) (by omega), i2 _ (by omega) (by omega), e 0 (by decide), e 1 (by decide), e 2 (by decide), e 3 (by decide), e 4 (by decide), e 6 (by decide), e 7 (by decide)]
        refine ⟨u1, u2, u3.trans (Eq.symm ?_), u4, fun o ho => ?_⟩
        · unfold tdS
          rw [c5, setB_more (by rw [td]; exact (tdn g (by omega)).2), c5']
          exact setB_cg fun k _ => td g k
        · rw [(m0 g (by omega) o ho).1, (m0 g (by omega) o ho).2]
          exact u5 o ho
      · rw [c5] at h9
        rw [i3 g hgn, i2 _ (by omega) (by omega), i2 _ (by omega) (by omega)]
        exact P.2 (by omega)
  · rw [cn_cg (lo 6 (by omega) (by omega))] at hk
    have ie : ∀ i, i < 11 → i ≠ 0 → m_iv (ppK M t n a b c d) (t + i) = m_iv M (t + i) := fun i h1 h2 => by
      unfold ppK
      rw [iv_ne (by omega), iv_ne (by omega), iv_ne (by omega), iv_ne (by omega), iv_ne (by omega)]
    unfold tA tB
    rw [ie 7 (by decide) (by decide), ie 8 (by decide) (by decide), lo _ (by omega) (by omega), lo _ (by omega) (by omega)]
    exact R.E k hk
  · have ie : ∀ i, i < 11 → i ≠ 0 → m_iv (ppK M t n a b c d) (t + i) = m_iv M (t + i) := fun i h1 h2 => by
      unfold ppK
      rw [iv_ne (by omega), iv_ne (by omega), iv_ne (by omega), iv_ne (by omega), iv_ne (by omega)]
    obtain ⟨g1, w, g2, g3, g4⟩ := R.G
    refine ⟨?_, w, g2, ?_, fun k j hk hj => ?_⟩
    · rw [ie 9 (by decide) (by decide), lo 12 (by omega) (by omega)]; exact g1
    · rw [ie 9 (by decide) (by decide)]; exact g3
    · rw [cn_cg (lo 12 (by omega) (by omega))] at hk
      rw [ie 10 (by decide) (by decide), g4 k j hk hj]
      exact (lo _ (by omega) (by omega)).symm
theorem addPerson_eq (S : Shape M t) (h5 : m_iv M t 2 = iN n) (hn : n < 10) (a b c d : Int32) : f_Town_addPerson t a b c d M = some (ppK M t n a b c d) := by
  have S1 : Shape (m_setI M (t + 11 + 3 * n) 0 a) t := S
  have S2 : Shape (m_setI (m_setI M (t + 11 + 3 * n) 0 a) (t + 11 + 3 * n) 1 b) t := S
  have S3 : Shape (m_setI (m_setI (m_setI M (t + 11 + 3 * n) 0 a) (t + 11 + 3 * n) 1 b) (t + 11 + 3 * n) 2 c) t := S
  have S4 : Shape (m_setI (m_setI (m_setI (m_setI M (t + 11 + 3 * n) 0 a) (t + 11 + 3 * n) 1 b) (t + 11 + 3 * n) 2 c) (t + 11 + 3 * n) 3 d) t := S
  unfold f_Town_addPerson ppK
  rw [S.i0, ob, h5, if_neg (show ¬ (10 : Int32) ≤ iN n from iN_nle (n := 10) hn (by decide)), S.g_people, ob, ob, S.g_person hn, ob, S.pP hn, ob, S1.pP hn, ob, S2.pP hn, ob, S3.pP hn, ob, S4.i0, ob, iv_ne (by omega), iv_ne (by omega), iv_ne (by omega), iv_ne (by omega), h5, S4.p0, ob, iN_s]
end Vp
