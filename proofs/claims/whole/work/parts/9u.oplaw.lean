section Ol
variable {N x o t B n p k w a en b rd xx s s' : Nat} {ps ys : Nat → Nat} {M K L : Mem} {r q : Rho} {tx : Nat → Int32} {f v : Int32} {m m2 : Nat → Int32} {lw : (Nat → Int32) → Int32} {ed : Nat → Nat}
theorem TRel.cgL (h : TRel M t m) (I : Inv m) (hm : ∀ k, k < 900 → k ≠ 1 → k ≠ 2 → m2 k = m k) : TRel M t m2 := by
  have b4 := I.b4
  have b6 := I.b6
  have b12 := I.b12
  have c3 : cn m2 3 = cn m 3 := cn_cg (hm 3 (by decide) (by decide) (by decide))
  have c4 : cn m2 4 = cn m 4 := cn_cg (hm 4 (by decide) (by decide) (by decide))
  have c6 : cn m2 6 = cn m 6 := cn_cg (hm 6 (by decide) (by decide) (by decide))
  have c12 : cn m2 12 = cn m 12 := cn_cg (hm 12 (by decide) (by decide) (by decide))
  refine ⟨⟨?_, ?_, ?_, fun k hk => ?_⟩, ?_, fun q hq => (h.P hq).cg hq I.b6 (fun _ _ _ => rfl) (fun k hk => hm k (by omega) (by omega) (by omega)), fun k hk => ?_, ?_, ?_⟩
  · rw [hm 3 (by decide) (by decide) (by decide)]; exact h.v3
  · rw [hm 4 (by decide) (by decide) (by decide)]; exact h.v4
  · rw [hm 13 (by decide) (by decide) (by decide), hm 14 (by decide) (by decide) (by decide), hm 15 (by decide) (by decide) (by decide)]; exact h.1.2.2.1
  · rw [c4] at hk
    rw [hm _ (by omega) (by omega) (by omega), hm _ (by omega) (by omega) (by omega), hm _ (by omega) (by omega) (by omega)]
    exact h.hab hk
  · unfold CRel
    rw [hm 5 (by decide) (by decide) (by decide), hm 6 (by decide) (by decide) (by decide), hm 0 (by decide) (by decide) (by decide), hm 16 (by decide) (by decide) (by decide), hm 7 (by decide) (by decide) (by decide), hm 8 (by decide) (by decide) (by decide), hm 9 (by decide) (by decide) (by decide), hm 10 (by decide) (by decide) (by decide), hm 11 (by decide) (by decide) (by decide)]
    exact h.C
  · rw [c6] at hk
    unfold tA tB
    rw [hm _ (by omega) (by omega) (by omega), hm _ (by omega) (by omega) (by omega)]
    exact h.E k hk
  · rw [hm 12 (by decide) (by decide) (by decide)]; exact h.G.1
  · obtain ⟨w, hw, e1, e2⟩ := h.G.2
    refine ⟨w, hw, e1, fun k c hk hc => ?_⟩
    rw [c12] at hk
    rw [e2 k c hk hc]
    exact (hm _ (by omega) (by omega) (by omega)).symm
theorem Inv.cgL (I : Inv m) (hm : ∀ k, k < 900 → k ≠ 1 → k ≠ 2 → m2 k = m k) : Inv m2 := by
  obtain ⟨i1, i2, i3, i4, i5⟩ := I
  exact ⟨i1.cg fun k hk => hm k (by omega) (by omega) (by omega), i2.cg fun k hk => hm k (by omega) (by omega) (by omega), i3.cg fun k hk => hm k (by omega) (by omega) (by omega), i4.cg fun k hk => hm k (by omega) (by omega) (by omega), by rw [hm 0 (by decide) (by decide) (by decide)]; exact i5⟩
/-- another fault told -/
theorem GS.flt (G : GS N x o ps ys M r) (hq : q.2 1 = r.2 1 ∧ q.2 2 = r.2 2 ∧ q.2 5 = r.2 5 ∧ q.2 7 = r.2 7 ∧ q.1 3 = r.1 3 ∧ q.1 6 = r.1 6 ∧ q.1 8 = r.1 8) (hz : Bz q) (hv : q.1 12 = v) : GS N x o ps ys (m_setI M x 2 v) q := by
  obtain ⟨A, ⟨k1, k2, k3, k4⟩, T, g, ⟨p1, p2, p3⟩, f, ⟨i1, i2⟩, ⟨a1, a2, a3⟩⟩ := G
  obtain ⟨e1, e2, e5, e7, f3, f6, f8⟩ := hq
  have F : Fr x 1 (x + 628) M (m_setI M x 2 v) := Fr.setI (Nat.le_refl _) (by omega) (by omega)
  have ix : ∀ j, j ≠ 2 → m_iv (m_setI M x 2 v) x j = m_iv M x j := fun j hj => by rw [iv_same, up1_ne hj]
  refine ⟨A.kr rfl rfl rfl, ⟨k1, k2, k3, k4⟩, fun g hg => ?_, ?_, ⟨?_, ?_, fun k hk => ?_⟩, ⟨?_, hz⟩, ⟨?_, ?_⟩, ⟨?_, ?_, fun k hk => ?_⟩⟩
  · rw [iv_ne (by omega)]; exact T g hg
  · rw [e1]; exact g.fr F (by omega) (by omega)
  · rw [ix 1 (by decide), f8]; exact p1
  · rw [f8]; exact p2
  · rw [iv_ne (by omega), e7]; exact p3 k hk
  · rw [iv_same, up1_same, hv]
  · rw [ix 5 (by decide), f3]; exact i1
  · rw [f3, e2]
    exact i2.imp id fun w => ⟨w.1, w.2.fr F (by omega) (by omega)⟩
  · rw [ix 7 (by decide), f6]; exact a1
  · rw [f6]; exact a2
  · rw [f6] at hk
    have hp := A.pl (i := k) (by have := (nb_c a2 (by decide)).2; omega)
    have ea : acM q k = acM r k := by
      unfold acM
      rw [e1, e5]
    rw [ea]
    exact (a3 k hk).fr F (by omega) (by omega)
/-- the law that the lines say -/
theorem LL.law (H : LRS K rd xx a en tx p t (-1) n s) (h : LL K a n s ed) : ∃ lw, LawC K a lw ∧ ∀ F v, SY K a n ed F v → v = lw F := by
  obtain ⟨cv, hcv⟩ : ∃ cv : (Nat → Int32) → Nat → Int32, ∀ F k, k < n → CV K a ed F k (cv F k) := by
    have h1 : ∀ F : Nat → Int32, ∃ c : Nat → Int32, ∀ k, k < n → CV K a ed F k (c k) := fun F => by
      have h2 : ∀ k, ∃ v, k < n → CV K a ed F k v := fun k => by
        by_cases hk : k < n
        · obtain ⟨v, c⟩ := (h.1 k hk).2.2.2 F
          exact ⟨v, fun _ => c⟩
        · exact ⟨0, fun q => absurd q hk⟩
      exact ⟨fun k => Classical.choose (h2 k), fun k hk => Classical.choose_spec (h2 k) hk⟩
    exact ⟨fun F => Classical.choose (h1 F), fun F => Classical.choose_spec (h1 F)⟩
  refine ⟨fun F => lwR (m_iv K (a + 1)) (cv F) n 0, ⟨en, n, ed, cv, H.W, H.2.2.2.2.2, H.2.2.1, fun k hk => ?_, fun F k hk => hcv F k hk, fun _ => rfl⟩, fun F v hs => hs (cv F) (hcv F)⟩
  obtain ⟨h1, h2, h3, -⟩ := h.1 k hk
  have := H.2.2.2.2.1
  exact ⟨h1, by omega, h3⟩
theorem op_law (G : GS N x o ps ys M r) (hN : 20000 ≤ N) : Both N x o (f_L_law N x o M) (f_R_law N r) := by
  have p1 := G.2.2.2.2.1.1
  have bz := G.2.2.2.2.2.1.2
  obtain ⟨n8, b8⟩ := nb_c G.2.2.2.2.1.2.1 (by decide)
  have tape := G.2.2.2.2.1.2.2
  generalize hen : (r.1 8).toNatClampNeg = en at *
  have up : f_CT_useTapeUp x M = some (iN en, m_setI M x 1 0) := by
    unfold f_CT_useTapeUp
    rw [G.A.i, ob, p1, n8, G.A.p, ob]
  have G1 := G.used 0
  have sz1 := G1.A.sz
  obtain ⟨K1, K, c1, s1, old1, c2, s2, old, nk, A, h6, W, ⟨g0, g2, g4, g5⟩, l0, l5⟩ := law_new (M := m_setI M x 1 0) (xx := x + 1) (en := en) (by rw [G1.A.2.1.1]; exact ⟨rfl, rfl⟩) (by omega) b8
  generalize ha : m_sz (m_setI M x 1 0) = a at *
  have hx1 : m_iv K (x + 1) = m_iv M (x + 1) := by rw [(old (x + 1) (by omega)).2.2, iv_ne (by omega)]
  obtain ⟨L, i', t', f', n', s', ed', c3, H3, F3, hL, md⟩ := law_read (N := N) b8 (by omega) A h6 W (by omega) (by omega) hx1 g0 g2 g4 g5 l0 l5
  have oldL : ∀ b, b < a → m_kd L b = m_kd (m_setI M x 1 0) b ∧ m_rv L b = m_rv (m_setI M x 1 0) b ∧ m_iv L b = m_iv (m_setI M x 1 0) b := fun b hb => by
    obtain ⟨o1, o2, o3⟩ := old b hb
    exact ⟨by rw [F3.1.2.1, o1], by rw [F3.1.2.2.1, o2], by rw [F3.2 b (by omega) (by omega), o3]⟩
  have szL : m_sz L = a + 7 := by rw [F3.1.1, s2]
  have G3 := G1.ext (K := L) ⟨by omega, fun b hb => oldL b (by omega)⟩ (fun b hb => by
    rw [F3.1.2.1, nk b (by omega)]
    exact G1.2.1.2.2.2 b (by omega))
  have pl2 : pI L 10 x 2 (m_iv L (a + 6) 0) = some (m_setI L x 2 f') := by rw [H3.C.1]; exact G3.A.p 2 f'
  -- the model
  have e0 : f_R_begins r = some (r_set (r_set (r_set (r_set (r_set (r_set r 12 (-1)) 9 (-1)) 10 (iN en)) 8 0) 11 0) 13 0) := by
    unfold f_R_begins
    rw [show (r_set (r_set r 12 (-1)) 9 (-1)).1 8 = iN en from n8]
  generalize hR : r_set (r_set (r_set (r_set (r_set (r_set r 12 (-1)) 9 (-1)) 10 (iN en)) 8 0) 11 0) 13 0 = R at *
  have R2 : R.2 = r.2 := by rw [← hR]; rfl
  have R3 : R.1 3 = r.1 3 := by rw [← hR]; rfl
  have R6 : R.1 6 = r.1 6 := by rw [← hR]; rfl
  have R8 : R.1 8 = 0 := by rw [← hR]; rfl
  have R9 : R.1 9 = -1 := by rw [← hR]; rfl
  have R10 : R.1 10 = iN en := by rw [← hR]; rfl
  have R11 : R.1 11 = 0 := by rw [← hR]; rfl
  have R12 : R.1 12 = -1 := by rw [← hR]; rfl
  have R13 : R.1 13 = 0 := by rw [← hR]; rfl
  have Rz : Bz R := by rw [← hR]; exact bz
  obtain ⟨v, q, m1, lw1, m12, m3, m4⟩ := md R ⟨R10, Or.inl ⟨R9, fun k hk => by rw [R2]; exact (tape k (by omega)).symm⟩⟩ R11 R12 Rz R13
  have q2 : q.2 = r.2 := lw1.1.trans R2
  have q3 : q.1 3 = r.1 3 := (lw1.2 3 (by decide) (by decide) (by decide)).trans R3
  have q6 : q.1 6 = r.1 6 := (lw1.2 6 (by decide) (by decide) (by decide)).trans R6
  have q8 : q.1 8 = 0 := (lw1.2 8 (by decide) (by decide) (by decide)).trans R8
  have q10 : q.1 10 = iN en := (lw1.2 10 (by decide) (by decide) (by decide)).trans R10
  have qz : Bz q := Rz.lw lw1
  -- the class, up to the fault
  have cl0 : f_CT_law N x M = if b01 (decide (f' = -1)) = 0 then some (.inr "java/lang/IllegalArgumentException", m_new (m_setI L x 2 f') (0, 0)) else ((gR (m_setI L x 2 f') 10 x 3).bind fun v8 => (pR (m_setI L x 2 f') 7 v8 6 a).bind fun M9 => (pI M9 10 x 7 0).bind fun M10 => (gI M10 1 a 0).bind fun v11 => some (.inl v11, M10)) := by
    have gx : gR (m_new K1 (12, 0)) 10 x 0 = some (x + 1) := by
      obtain ⟨o1, o2⟩ := old1 x (by omega)
      refine (gR_k (ci := 10) (by rw [o2]; exact G1.A.kx)).trans ?_
      rw [o1]
      exact G1.A.1.2.1
    have s1' : m_sz K1 = a + 6 := s1
    unfold f_CT_law
    rw [G.A.c, ob, up, ob]
    dsimp only
    rw [ha, c1, ob, gx, ob, c2, ob, s1', H3.A.2.2.1 |> fun _ => A.fc, ob, c3, ob]
    dsimp only
    rw [H3.A.fi, ob, pl2, ob]
  by_cases hf : f' = -1
  · subst hf
    have LLn := hL rfl
    obtain ⟨lw, hLC, hsy⟩ := LLn.law H3
    have vn : v = iN n' := m3 rfl
    have n12 : n' ≤ 12 := H3.2.2.2.2.2
    -- the model's end
    generalize hr4 : r_st (r_st (r_set q 0 0) 1 1 (iN n')) 1 2 (iN en) = r4
    have r4f : r4.1 10 = iN en := by rw [← hr4]; exact q10
    have loop : f_R_law_55 N N (iN n') 0 r4 = some (iN n', r_set (cpR 7 0 1 900 en r4) 6 0) := by
      refine (run_cp (F := fun fuel k z => f_R_law_55 N fuel (iN n') (iN k) z) (fin := fun z => some (iN n', r_set z 6 0)) (n := en) (a := 7) (oa := 0) (b := 1) (ob := 900) (Or.inl (by decide)) (fun fuel z hz => ?_) (fun fuel k z hk hz => ?_) (by omega))
      · show f_R_law_55 N (fuel + 1) (iN n') (iN en) z = _
        rw [f_R_law_55, hz, r4f, if_pos (i_le_rfl _)]
      · show f_R_law_55 N (fuel + 1) (iN n') (iN k) z = _
        rw [f_R_law_55, hz, r4f, if_neg (iN_nle hk (by omega)), rld7 (by omega), ob, show (900 : Int32) + iN k = iN (900 + k) from iN_add 900 k, rst1 (by omega), ob, iN_s, Nat.zero_add]
    have mdE : f_R_law N r = some (iN n', r_set (cpR 7 0 1 900 en r4) 6 0) := by
      unfold f_R_law
      rw [e0, ob, m1, ob]
      dsimp only
      rw [if_pos m12]
      unfold f_R_law_24
      rw [th0, if_pos i00, vn, show rst (r_set q 0 0) 1 1 (iN n') = some (r_st (r_set q 0 0) 1 1 (iN n')) from rst1 (k := 1) (by decide), ob, show (r_st (r_set q 0 0) 1 1 (iN n')).1 10 = iN en from q10, show rst (r_st (r_set q 0 0) 1 1 (iN n')) 1 2 (iN en) = some (r_st (r_st (r_set q 0 0) 1 1 (iN n')) 1 2 (iN en)) from rst1 (k := 2) (by decide), ob, hr4]
      exact loop
    -- the row
    have row : ∀ i, (r_set (cpR 7 0 1 900 en r4) 6 0).2 1 i = if 900 ≤ i ∧ i < 900 + en then r.2 7 (i - 900) else if i = 2 then iN en else if i = 1 then iN n' else r.2 1 i := fun i => by
      show (cpR 7 0 1 900 en r4).2 1 i = _
      rw [cpR_own]
      by_cases hi : 900 ≤ i ∧ i < 900 + en
      · rw [if_pos hi, if_pos hi, Nat.zero_add, ← hr4, rst_ne (by decide), rst_ne (by decide)]
        show q.2 7 (i - 900) = _
        rw [q2]
      · rw [if_neg hi, if_neg hi, ← hr4, rst_own, rst_own]
        by_cases h2 : i = 2
        · rw [if_pos h2, if_pos h2]
        · rw [if_neg h2, if_neg h2]
          by_cases h1 : i = 1
          · rw [if_pos h1, if_pos h1]
          · rw [if_neg h1, if_neg h1]
            show q.2 1 i = _
            rw [q2]
    have oth : ∀ j, j ≠ 1 → (r_set (cpR 7 0 1 900 en r4) 6 0).2 j = r.2 j := fun j hj => by
      show (cpR 7 0 1 900 en r4).2 j = _
      rw [cpR_ne hj, ← hr4, rst_ne hj, rst_ne hj]
      show q.2 j = _
      rw [q2]
    have fld : ∀ j, j ≠ 6 → j ≠ 0 → (r_set (cpR 7 0 1 900 en r4) 6 0).1 j = q.1 j := fun j h6 h0 => by
      rw [set_f h6]
      show r4.1 j = _
      rw [← hr4]
      show (r_set q 0 0).1 j = _
      rw [set_f h0]
    have f0 : (r_set (cpR 7 0 1 900 en r4) 6 0).1 0 = 0 := by rw [← hr4]; rfl
    have f6 : (r_set (cpR 7 0 1 900 en r4) 6 0).1 6 = 0 := set_s _ _ _
    generalize r_set (cpR 7 0 1 900 en r4) 6 0 = Q at *
    -- the class's end
    obtain ⟨A3, ⟨k1, k2, k3, k4⟩, T, g, ⟨u1, u2, u3⟩, f, ⟨i1, i2⟩, -⟩ := G3
    generalize hM9 : m_setR (m_setI L x 2 (-1)) (x + 2) 6 (some a) = M9
    have rv9 : ∀ b, b ≠ x + 2 → m_rv M9 b = m_rv L b := fun b hb => by rw [← hM9, rv_R _ _ _ _ _ hb, rv_setI]
    have rv9l : ∀ j, m_rv M9 (x + 2) j = if j = 6 then some a else m_rv L (x + 2) j := fun j => by
      rw [← hM9, rv_setR]
      by_cases hj : j = 6
      · rw [if_pos ⟨rfl, hj⟩, if_pos hj]
      · rw [if_neg (fun z => hj z.2), if_neg hj, rv_setI]
    have iv9 : ∀ b, b ≠ x → m_iv M9 b = m_iv L b := fun b hb => by rw [← hM9, iv_setR, iv_ne hb]
    have iv9x : ∀ j, m_iv M9 x j = if j = 2 then -1 else m_iv L x j := fun j => by rw [← hM9, iv_setR, iv_same, up1_at]
    have kd9 : m_kd M9 = m_kd L := by rw [← hM9]; rfl
    have sz9 : m_sz M9 = m_sz L := by rw [← hM9]; rfl
    have Sh9 : ∀ {t : Nat}, (t ≤ x + 2 → x + 2 < t + 41 → x + 2 = t) → Shape L t → Shape M9 t := fun {t} ht S => by rw [← hM9]; exact Shape.law ht (S.setI)
    have A9 : XSk M9 x ps ys := by
      unfold XSk at A3 ⊢
      obtain ⟨b1, b2, ⟨b3, b4, b5, b6⟩, b7, b8, b9, b10, b11⟩ := A3
      rw [kd9, rv9 x (by omega), rv9 (x + 84) (by omega), rv9 (x + 126) (by omega), rv9 (x + 132) (by omega), sz9]
      exact ⟨b1, b2, ⟨Sh9 (by omega) b3, Sh9 (by omega) b4, Sh9 (by omega) b5, fun i hi => Sh9 (by omega) (b6 i hi)⟩, b7, b8, b9, b10, b11⟩
    have A10 : XSk (m_setI M9 x 7 0) x ps ys := A9.kr rfl rfl rfl
    have W3 := H3.W
    have lawC : ∀ {c : Nat} {l : (Nat → Int32) → Int32}, x + 628 ≤ c → LawC L c l → LawC (m_setI M9 x 7 0) c l ∧ m_iv (m_setI M9 x 7 0) c 0 = m_iv L c 0 := fun {c l} hc h => by
      refine ⟨h.cong (fun b _ _ => by show m_kd M9 b = _; rw [kd9]) (by show m_rv M9 c = _; rw [rv9 c (by omega)]) (fun b h1 h2 _ => by rw [iv_ne (by omega), iv9 b (by omega)]), by rw [iv_ne (by omega), iv9 c (by omega)]⟩
    have gt : ∀ {t : Nat} {m : Nat → Int32}, x + 2 < t → GT N (x + 628) L t m → GT N (x + 628) (m_setI M9 x 7 0) t m := fun {t m} ht h => by
      obtain ⟨h1, h2, lw, h3, h4⟩ := h
      refine ⟨h1, h2.frame fun b q1 q2 => by rw [iv_ne (by omega), iv9 b (by omega)], lw, ?_, h4⟩
      rcases h3 with ⟨a1, a2⟩ | ⟨c, a1, a2, a3, a4⟩
      · exact Or.inl ⟨by show m_rv M9 t 6 = _; rw [rv9 t (by omega)]; exact a1, a2⟩
      · exact Or.inr ⟨c, by show m_rv M9 t 6 = _; rw [rv9 t (by omega)]; exact a1, a2, (lawC a2 a3).1, (lawC a2 a3).2.trans a4⟩
    have GE : GS N x o ps ys (m_setI M9 x 7 0) Q := by
      refine ⟨A10, ⟨by show m_kd M9 o = _; rw [kd9]; exact k1, k2, by show o < m_sz M9; rw [sz9]; exact k3, fun b hb => by show (m_kd M9 b).1 = 0; rw [kd9]; exact k4 b (by rw [← sz9]; exact hb)⟩, fun g hg => ?_, ?_, ⟨?_, ?_, fun k hk => ?_⟩, ⟨?_, ?_⟩, ⟨?_, ?_⟩, ⟨?_, ?_, fun k hk => ?_⟩⟩
      · rw [iv_ne (by omega), iv9 _ (by omega)]; exact T g hg
      · obtain ⟨h1, h2, -⟩ := g
        have hm : ∀ k, k < 900 → k ≠ 1 → k ≠ 2 → Q.2 1 k = r.2 1 k := fun k h1 h2 h3 => by
          rw [row, if_neg (by omega), if_neg h3, if_neg h2]
        refine ⟨h1.cgL hm, (h2.frame fun b q1 q2 => by rw [iv_ne (by omega), iv9 b (by omega)]).cgL h1 hm, lw, Or.inr ⟨a, ?_, by omega, (lawC (by omega) hLC).1, ?_⟩, ?_⟩
        · show m_rv M9 (x + 2) 6 = _
          rw [rv9l, if_pos rfl]
        · rw [(lawC (c := a) (by omega) hLC).2, H3.2.2.1, row, if_neg (by omega), if_neg (by decide), if_pos rfl]
        · have hQ1 : Q.2 1 1 = iN n' := by rw [row, if_neg (by omega), if_neg (by decide), if_pos rfl]
          have hQ2 : Q.2 1 2 = iN en := by rw [row, if_neg (by omega), if_pos rfl]
          by_cases hn0 : n' = 0
          · refine Or.inl ⟨by rw [hQ1, hn0]; decide, fun F => ?_⟩
            have hs : SY L a n' ed' F (-1) := fun cv _ => by rw [hn0]; rfl
            exact (hsy F (-1) hs).symm
          · refine Or.inr ⟨by rw [hQ1]; exact iN_ylt (k := 0) (by omega) (by omega), fun r' ht9 r9 r10 r11 r12 r13 r17 r15 r16 => ?_⟩
            obtain ⟨v', q', w1, w2, w3, -, w5⟩ := md r' ⟨r10.trans hQ2, Or.inr ⟨r9, fun k hk => by
              rw [ht9 k (by omega), row, if_pos (by omega), show 900 + k - 900 = k by omega]
              exact (tape k (by omega)).symm⟩⟩ r11 r12 ⟨r15, r16⟩ r13
            refine ⟨v', q', w1, hsy _ _ (w5 r17 rfl), ⟨⟨by rw [w2.1], by rw [w2.1], by rw [w2.1], by rw [w2.1], by rw [w2.1]⟩, w2.2 0 (by decide) (by decide) (by decide), w2.2 3 (by decide) (by decide) (by decide), w2.2 6 (by decide) (by decide) (by decide), w2.2 8 (by decide) (by decide) (by decide), fun z => z.lw w2⟩⟩
      · rw [iv_same, up1_ne (by decide), iv9x, if_neg (by decide), fld 8 (by decide) (by decide), q8]
        exact u1
      · rw [fld 8 (by decide) (by decide), q8]
        exact ⟨0, by decide, rfl⟩
      · rw [iv_ne (by omega), iv9 _ (by omega), oth 7 (by decide)]
        exact u3 k hk
      · rw [iv_same, up1_ne (by decide), iv9x, if_pos rfl, fld 12 (by decide) (by decide), m12]
      · unfold Bz
        rw [fld 15 (by decide) (by decide), fld 16 (by decide) (by decide)]
        exact qz
      · rw [iv_same, up1_ne (by decide), iv9x, if_neg (by decide), fld 3 (by decide) (by decide), q3]
        exact i1
      · rw [fld 3 (by decide) (by decide), q3, oth 2 (by decide)]
        exact i2.imp id fun w => ⟨w.1, gt (by omega) w.2⟩
      · rw [iv_same, up1_same, f6]
      · rw [f6]
        exact ⟨0, by decide, rfl⟩
      · rw [f6] at hk
        exact absurd (show k < 0 from hk) (Nat.not_lt_zero k)
    refine both_ok (v := iN n') GE f0 ?_ mdE
    unfold f_L_law
    have e7 : gR (m_setI L x 2 (-1)) 10 x 3 = some (x + 2) := (A3.kr rfl rfl rfl : XSk (m_setI L x 2 (-1)) x ps ys).gN
    have e8 : pR (m_setI L x 2 (-1)) 7 (x + 2) 6 a = some M9 := by rw [← hM9]; exact (A3.kr rfl rfl rfl : XSk (m_setI L x 2 (-1)) x ps ys).tn.pr 6 a
    have e9 : gI (m_setI M9 x 7 0) 1 a 0 = some (iN n') := by
      have kk : (m_kd (m_setI M9 x 7 0) a).1 = 10 + 1 := by
        show (m_kd M9 a).1 = _
        rw [kd9]
        exact W3.k0
      rw [gI_k (ci := 1) kk, iv_ne (by omega), iv9 a (by omega), H3.2.2.1]
    rw [G.A.c, ob, cl0, decide_eq_true (rfl : (-1 : Int32) = -1), if_neg (show ¬ b01 true = 0 by decide), e7, ob, e8, ob, A9.p, ob, e9, ob, ob, sx_l]
    rfl
  · have G4 : GS N x o ps ys (m_setI L x 2 f') (r_set q 0 1) := (G3.flt (q := q) ⟨by rw [q2]; rfl, by rw [q2]; rfl, by rw [q2]; rfl, by rw [q2]; rfl, q3, q6, q8⟩ qz m12).th 1
    refine both_ex (c := 1) (v := 0) G4.new i1n (th0 q 1) ?_ ?_
    · unfold f_L_law
      rw [G.A.c, ob, cl0, decide_eq_false hf, if_pos (show b01 false = 0 from rfl), ob, sx_r, if_pos rfl]
    · unfold f_R_law
      rw [e0, ob, m1, ob]
      dsimp only
      rw [if_neg (by rw [m12]; exact hf)]
      unfold f_R_law_24
      rw [th0, if_neg i10]
end Ol
