section Vt
variable {N x o i j k p t w b rd xx tk lo n en : Nat} {ps ys : Nat → Nat} {tx : Nat → Int32} {K L M : Mem} {f v u g a c d : Int32} {r q : Rho} {m m2 z : Nat → Int32}
theorem LawC.kinds {e : Nat} {lw : (Nat → Int32) → Int32} (h : LawC M e lw) (h1 : e ≤ b) (h2 : b < e + 6) : (m_kd M b).1 = 11 ∨ (m_kd M b).1 = 1 := by
  obtain ⟨c2, n, en, cv, ⟨⟨l1, -⟩, ⟨k1, k2, k3, k4, k5⟩, -⟩, -⟩ := h
  have : b = e ∨ b = e + 1 ∨ b = e + 2 ∨ b = e + 3 ∨ b = e + 4 ∨ b = e + 5 := by omega
  rcases this with rfl | rfl | rfl | rfl | rfl | rfl
  · exact Or.inl (by rw [l1])
  · exact Or.inr (by rw [k1])
  · exact Or.inr (by rw [k2])
  · exact Or.inr (by rw [k3])
  · exact Or.inr (by rw [k4])
  · exact Or.inr (by rw [k5])
theorem txt_T (R : TRel M t m) (I : Inv m) (h : cn m 0 < 12) : Inv (up1 m 0 (m 0 + 1)) ∧ TRel (m_setI M t 7 (m 0 + 1)) t (up1 m 0 (m 0 + 1)) := by
  have e0 : m 0 + 1 = iN (cn m 0 + 1) := by
    have := I.n0
    rw [this, iN_s]
  have lo : ∀ k, k ≠ 0 → up1 m 0 (m 0 + 1) k = m k := fun k hk => up1_ne hk
  have b6 := I.b6
  have ix : ∀ j, j ≠ 7 → m_iv (m_setI M t 7 (m 0 + 1)) t j = m_iv M t j := fun j hj => by rw [iv_same, up1_ne hj]
  refine ⟨⟨I.1.cg fun k hk => lo k (by omega), I.2.1.cg fun k hk => lo k (by omega), I.2.2.1.cg fun k hk => lo k (by omega), I.2.2.2.1.cg fun k hk => lo k (by omega), by rw [up1_same, e0]; exact ⟨_, by omega, rfl⟩⟩, ⟨?_, ?_, ?_, fun k hk => ?_⟩, ⟨?_, ?_, ?_, ?_, ?_, ?_, ?_, ?_, ?_⟩, fun g hg => ?_, fun k hk => ?_, ?_⟩
  · rw [iv_ne (by omega), lo 3 (by decide)]; exact R.v3
  · rw [iv_ne (by omega), lo 4 (by decide)]; exact R.v4
  · rw [iv_ne (by omega), lo 13 (by decide), lo 14 (by decide), lo 15 (by decide)]; exact R.1.2.2.1
  · rw [cn_cg (lo 4 (by decide))] at hk
    rw [iv_ne (by omega), iv_ne (by omega), iv_ne (by omega), lo _ (by omega), lo _ (by omega), lo _ (by omega)]
    exact R.hab hk
  · rw [ix 2 (by decide), lo 5 (by decide)]; exact R.v5
  · rw [ix 5 (by decide), lo 6 (by decide)]; exact R.v6
  · rw [iv_same, up1_same, up1_same]
  · rw [ix 8 (by decide), lo 16 (by decide)]; exact R.v16
  · rw [ix 9 (by decide), lo 7 (by decide)]; exact R.v7
  · rw [ix 10 (by decide), lo 8 (by decide)]; exact R.v8
  · rw [ix 11 (by decide), lo 9 (by decide)]; exact R.v9
  · rw [ix 12 (by decide), lo 10 (by decide)]; exact R.v10
  · rw [ix 13 (by decide), lo 11 (by decide)]; exact R.v11
  · exact (R.P hg).mk hg (fun b h1 h2 => iv_ne (by omega)) (cn_cg (lo 5 (by decide))) (fun j hj => lo _ (by omega)) (fun o ho => ⟨lo _ (by omega), lo _ (by omega)⟩) (tdS_cg b6 (fun k hk => lo k (by omega)) g)
  · rw [cn_cg (lo 6 (by decide))] at hk
    unfold tA tB
    rw [iv_ne (by omega), iv_ne (by omega), lo _ (by omega), lo _ (by omega)]
    exact R.E k hk
  · obtain ⟨g1, w, g2, g3, g4⟩ := R.G
    refine ⟨?_, w, g2, ?_, fun k j hk hj => ?_⟩
    · rw [iv_ne (by omega), lo 12 (by decide)]; exact g1
    · rw [iv_ne (by omega)]; exact g3
    · rw [cn_cg (lo 12 (by decide))] at hk
      rw [iv_ne (by omega), g4 k j hk hj]
      exact (lo _ (by omega)).symm
theorem GT.to (h : GT N (x + 628) M t m) (F : Fr (x + 85) 41 (x + 628) M L) (I : Inv m2) (R : TRel L t m2) (hm : ∀ k, (k ≤ 2 ∨ 900 ≤ k) → k ≠ 0 → m2 k = m k) : GT N (x + 628) L t m2 := by
  obtain ⟨-, -, lw, h3, h4⟩ := h
  refine ⟨I, R, lw, ?_, h4.cg (hm 1 (by omega) (by decide)) (hm 2 (by omega) (by decide)) fun k hk => hm _ (by omega) (by omega)⟩
  rw [hm 1 (by omega) (by decide)]
  rcases h3 with ⟨a1, a2⟩ | ⟨e, a1, a2, a3, a4⟩
  · exact Or.inl ⟨by rw [F.1.2.2.1]; exact a1, a2⟩
  · exact Or.inr ⟨e, by rw [F.1.2.2.1]; exact a1, a2, (F.2.2 e lw a2 a3).1, (F.2.2 e lw a2 a3).2.trans a4⟩
theorem town_2 (hN : 20000 ≤ N) {R : Rho} (hb : f_R_begins (cpR 1 0 4 0 900 r) = some R) : f_R_town N r = ((f_R_read N 0 R).bind fun z2 => if (z2.2.1 12) = (-1) then ((rld z2.2 1 0).bind fun v3 => if v3 = 12 then (f_R_town_66 N 2 z2.2) else (f_R_town_66 N 0 z2.2)) else (f_R_town_66 N 1 z2.2)) := by
  unfold f_R_town
  refine (run_cp (F := fun fuel k z => f_R_town_2 N fuel (iN k) z) (fin := fun z => (f_R_begins z).bind fun z1 => (f_R_read N 0 z1).bind fun z2 => if (z2.2.1 12) = (-1) then ((rld z2.2 1 0).bind fun v3 => if v3 = 12 then (f_R_town_66 N 2 z2.2) else (f_R_town_66 N 0 z2.2)) else (f_R_town_66 N 1 z2.2)) (n := 900) (a := 1) (oa := 0) (b := 4) (ob := 0) (Or.inl (by decide)) (fun fuel z _ => ?_) (fun fuel k z hk _ => ?_) (by omega)).trans ?_
  · show f_R_town_2 N (fuel + 1) (iN 900) z = _
    rw [f_R_town_2, if_pos (show (900 : Int32) ≤ iN 900 from i_le_rfl 900)]
  · show f_R_town_2 N (fuel + 1) (iN k) z = _
    rw [f_R_town_2, if_neg (show ¬ (900 : Int32) ≤ iN k from iN_nle (n := 900) hk (by decide)), rld1 (by omega), ob, rst4 hk, ob, iN_s, Nat.zero_add]
  · rw [hb, ob]
theorem op_town (G : GS N x o ps ys M r) (hN : 20000 ≤ N) : Both N x o (f_L_town N x o M) (f_R_town N r) := by
  have p1 := G.2.2.2.2.1.1
  have bz := G.2.2.2.2.2.1.2
  obtain ⟨n8, b8⟩ := nb_c G.2.2.2.2.1.2.1 (by decide)
  generalize hen : (r.1 8).toNatClampNeg = en at *
  have up : f_CT_useTapeUp x M = some (iN en, m_setI M x 1 0) := by
    unfold f_CT_useTapeUp
    rw [G.A.i, ob, p1, n8, G.A.p, ob]
  have G1 := G.used 0
  obtain ⟨K0, c0, G2, GD⟩ := G1.draft (N := N) (by omega)
  have GD : GT N (x + 628) K0 (x + 85) (r.2 1) := GD
  have tape : ∀ k, k < 400 → m_iv K0 (x + 1) k = r.2 7 k := G2.2.2.2.2.1.2.2
  have sz2 := G2.A.sz
  obtain ⟨K, c1, s1, old, nk, A, h6, ⟨g0, g2, g4, g5⟩⟩ := reader_new (M := K0) (xx := x + 1) (en := en) G2.A.2.1.1 (by omega) b8 (x + 85)
  have hE : Ext K0 K := ⟨by omega, fun b hb => old b hb⟩
  have G3 := G2.ext hE (fun b hb => by
    rw [nk b (by omega)]
    exact G2.2.1.2.2.2 b (by omega))
  have GD3 := hE.gt G2.2.1.2.2.2 (by omega) GD
  have hx1 : m_iv K (x + 1) = m_iv K0 (x + 1) := (old (x + 1) (by omega)).2.2
  generalize ha : m_sz K0 = e at *
  obtain ⟨L, i', t', f', m', c3, H3, F3, hL, md⟩ := town_read (N := N) b8 (by omega) A h6 G3.A.td (by omega) (by omega) hx1 g0 g2 g4 g5 GD3.1 GD3.2.1
  have F : Fr (x + 85) 41 (x + 628) K L := by
    have ne : ∀ {d : Nat} {lw : (Nat → Int32) → Int32} {b : Nat}, LawC K d lw → d ≤ b → b < d + 6 → b ≠ e := fun {d lw b} h h1 h2 hb => by
      have k := h.kinds h1 h2
      rw [hb, A.1] at k
      rcases k with k | k <;> exact absurd k (by decide)
    refine ⟨F3.1, fun b hb hn => F3.2 b (by omega) (by omega), fun d lw hd h => ⟨h.cong (fun b _ _ => by rw [F3.1.2.1]) (by rw [F3.1.2.2.1]) (fun b h1 h2 _ => F3.2 b (ne h h1 h2) (by omega)), ?_⟩⟩
    rw [F3.2 d (ne h (Nat.le_refl _) (by omega)) (by omega)]
  have G4 := G3.frD F
  -- the model
  have e0 : f_R_begins (cpR 1 0 4 0 900 r) = some (r_set (r_set (r_set (r_set (r_set (r_set (cpR 1 0 4 0 900 r) 12 (-1)) 9 (-1)) 10 (iN en)) 8 0) 11 0) 13 0) := by
    unfold f_R_begins
    rw [show (r_set (r_set (cpR 1 0 4 0 900 r) 12 (-1)) 9 (-1)).1 8 = iN en from n8]
  generalize hR : r_set (r_set (r_set (r_set (r_set (r_set (cpR 1 0 4 0 900 r) 12 (-1)) 9 (-1)) 10 (iN en)) 8 0) 11 0) 13 0 = R at *
  have R2 : ∀ j, j ≠ 4 → R.2 j = r.2 j := fun j hj => by rw [← hR]; exact cpR_ne hj
  have R4 : ∀ k, k < 900 → R.2 4 k = r.2 1 k := fun k hk => by
    rw [← hR]
    show (cpR 1 0 4 0 900 r).2 4 k = _
    rw [cpR_own, if_pos (by omega), Nat.zero_add, Nat.sub_zero]
  have R3 : R.1 3 = r.1 3 := by rw [← hR]; rfl
  have R6 : R.1 6 = r.1 6 := by rw [← hR]; rfl
  have R8 : R.1 8 = 0 := by rw [← hR]; rfl
  have R9 : R.1 9 = -1 := by rw [← hR]; rfl
  have R10 : R.1 10 = iN en := by rw [← hR]; rfl
  have R11 : R.1 11 = 0 := by rw [← hR]; rfl
  have R12 : R.1 12 = -1 := by rw [← hR]; rfl
  have Rz : Bz R := by rw [← hR]; exact bz
  obtain ⟨v, q, m1, lw1, m12, m3⟩ := md R ⟨R10, Or.inl ⟨R9, fun k hk => by rw [R2 7 (by decide)]; exact (tape k (by omega)).symm⟩⟩ R11 R12 (R2 1 (by decide))
  have q2 : ∀ j, j ≠ 1 → j ≠ 4 → q.2 j = r.2 j := fun j h1 h4 => (lw1.1 j h1).trans (R2 j h4)
  have q4 : ∀ k, k < 900 → q.2 4 k = r.2 1 k := fun k hk => by rw [lw1.1 4 (by decide)]; exact R4 k hk
  have q1 : ∀ k, (k ≤ 2 ∨ 900 ≤ k) → q.2 1 k = r.2 1 k := fun k hk => by rw [lw1.2.1 k hk, R2 1 (by decide)]
  have q3 : q.1 3 = r.1 3 := (lw1.2.2 3 (by decide) (by decide)).trans R3
  have q6 : q.1 6 = r.1 6 := (lw1.2.2 6 (by decide) (by decide)).trans R6
  have q8 : q.1 8 = 0 := (lw1.2.2 8 (by decide) (by decide)).trans R8
  have qz : Bz q := by
    unfold Bz at Rz ⊢
    rw [lw1.2.2 15 (by decide) (by decide), lw1.2.2 16 (by decide) (by decide)]
    exact Rz
  have G5 : GS N x o ps ys (m_setI L x 2 f') (setM q (r.2 1)) := G4.flt (q := setM q (r.2 1)) ⟨setM_m _ _, q2 2 (by decide) (by decide), q2 5 (by decide) (by decide), q2 7 (by decide) (by decide), q3, q6, q8⟩ qz m12
  have hmd := town_2 (r := r) hN e0
  rw [m1, ob] at hmd
  dsimp only at hmd
  -- the class, up to the fault
  have cl0 : f_CT_town N x M = if b01 (decide (f' = -1)) = 0 then some (.inr "java/lang/IllegalArgumentException", m_new (m_setI L x 2 f') (0, 0)) else ((gR (m_setI L x 2 f') 10 x 3).bind fun v11 => (gI (m_setI L x 2 f') 7 v11 7).bind fun v12 => if v12 < 12 then ((gR (m_setI L x 2 f') 10 x 8).bind fun v13 => (gI (m_setI L x 2 f') 7 v13 7).bind fun v14 => (pI (m_setI L x 2 f') 7 v13 7 (v14 + 1)).bind fun M15 => (gR M15 10 x 3).bind fun v16 => (gR M15 10 x 8).bind fun v17 => (ck M15 7 v16).bind fun _ => (f_Town_copyFrom N v16 v17 M15).bind fun z18 => (pI z18 10 x 7 0).bind fun M19 => (gR M19 10 x 3).bind fun v20 => (gI M19 7 v20 7).bind fun v21 => some (.inl v21, M19)) else (some (.inr "java/lang/UnsupportedOperationException", m_new (m_setI L x 2 f') (0, 0)))) := by
    have kx : (m_kd (m_new K0 (18, 0)) x).1 = 20 := by
      rw [kd_n, if_neg (by omega)]
      exact G2.A.kx
    have rx : m_rv (m_new K0 (18, 0)) x = m_rv K0 x := by rw [rv_n, if_neg (by omega)]
    have gx : gR (m_new K0 (18, 0)) 10 x 0 = some (x + 1) := by
      refine (gR_k (ci := 10) kx).trans ?_
      rw [rx]
      exact G2.A.1.2.1
    have gd : gR (m_new K0 (18, 0)) 10 x 8 = some (x + 85) := by
      refine (gR_k (ci := 10) kx).trans ?_
      rw [rx]
      exact G2.A.1.2.2.2.2.2.1
    unfold f_CT_town
    rw [G.A.c, ob, up, ob]
    dsimp only
    rw [G1.A.gD, ob, G1.A.gN, ob, G1.A.td.c0, ob, c0, ob, gx, ob, gd, ob, ha, c1, ob, A.fc, ob, c3, ob]
    dsimp only
    rw [H3.A.fi, ob, H3.C.1, G4.A.p, ob]
  have back : ∀ c : Int32, S0 (setM q (r.2 1)) (cpR 4 0 1 0 900 (r_set q 0 c)) := fun c => by
    refine ⟨⟨?_, cpR_ne (by decide), cpR_ne (by decide), cpR_ne (by decide)⟩, rfl, rfl, rfl, rfl, id⟩
    rw [setM_m]
    funext i
    rw [cpR_own]
    by_cases hi : 0 ≤ i ∧ i < 0 + 900
    · rw [if_pos hi, Nat.zero_add, Nat.sub_zero]
      exact q4 i (by omega)
    · rw [if_neg hi]
      exact q1 i (by omega)
  have thr : ∀ c : Int32, ¬ c ≤ 0 → f_R_town_66 N c q = some (0, cpR 4 0 1 0 900 (r_set q 0 c)) := fun c hc => by
    unfold f_R_town_66
    rw [set_s, if_neg hc, back_eq hN, ob]
  by_cases hf : f' = -1
  · subst hf
    obtain ⟨I', R'⟩ := hL rfl
    have qm : q.2 1 = m' := m3 rfl
    have hm' : ∀ k, (k ≤ 2 ∨ 900 ≤ k) → m' k = r.2 1 k := fun k hk => by rw [← qm]; exact q1 k hk
    rw [if_pos m12, rlm0, ob, qm] at hmd
    have I := G.I
    have h0 := I.n0
    have b0 := I.b0
    have t0 : m_iv (m_setI L x 2 (-1)) (x + 2) 7 = iN (cn (r.2 1) 0) := by
      have := G5.R.v0
      rw [setM_m, h0] at this
      exact this
    have e3 : gR (m_setI L x 2 (-1)) 10 x 3 = some (x + 2) := G5.A.gN
    have e4 : gI (m_setI L x 2 (-1)) 7 (x + 2) 7 = some (iN (cn (r.2 1) 0)) := by rw [G5.S.i0, t0]
    by_cases h12 : cn (r.2 1) 0 < 12
    · have GL : GT N (x + 628) L (x + 85) m' := GD3.to F I' R' fun k hk _ => hm' k hk
      have td : isT x (x + 85) := Or.inr (Or.inr (Or.inl rfl))
      have tn : isT x (x + 2) := Or.inl rfl
      have tkk : isT x (x + 43) := Or.inr (Or.inl rfl)
      have G10 := GL.fld (j := 2) (v := -1) td
      have hv0 : m' 0 = iN (cn (r.2 1) 0) := (hm' 0 (by omega)).trans h0
      have c0' : cn m' 0 = cn (r.2 1) 0 := cn_cg (hm' 0 (by omega))
      obtain ⟨I15, R15⟩ := txt_T G10.2.1 I' (by omega)
      have F15 : Fr (x + 85) 41 (x + 628) (m_setI L x 2 (-1)) (m_setI (m_setI L x 2 (-1)) (x + 85) 7 (m' 0 + 1)) := Fr.setI (Nat.le_refl _) (by omega) (by omega)
      have G15 := G5.frD F15
      have GT15 := G10.to F15 I15 R15 fun k _ hk => up1_ne hk
      have ix0 : m_iv (m_setI L x 2 (-1)) (x + 85) 7 = m' 0 := G10.2.1.v0
      generalize hm2 : up1 m' 0 (m' 0 + 1) = m'' at *
      generalize hM15 : m_setI (m_setI L x 2 (-1)) (x + 85) 7 (m' 0 + 1) = M15 at *
      obtain ⟨A15, ⟨k1, k2, k3, k4⟩, T, -, ⟨u1, u2, u3⟩, ff, ⟨i1, i2⟩, -⟩ := id G15
      obtain ⟨K5, h1, C, h2⟩ := f_Town_copyFrom_eq A15.tn A15.td (by omega) (show 500 < N by omega) GT15.cold
      have B1 := C.xs A15 tn
      have bn := isT_b tn
      have hx : m_iv K5 x = m_iv M15 x := C.2.1 x (by omega)
      have ix : ∀ j, j ≠ 7 → m_iv (m_setI K5 x 7 0) x j = m_iv M15 x j := fun j hj => by rw [iv_same, up1_ne hj, hx]
      generalize hQ : r_set (setM (r_set q 0 0) m'') 6 0 = Q
      have Q1 : Q.2 1 = m'' := by rw [← hQ]; rfl
      have Q2 : Q.2 2 = r.2 2 := by rw [← hQ]; exact q2 2 (by decide) (by decide)
      have Q7 : Q.2 7 = r.2 7 := by rw [← hQ]; exact q2 7 (by decide) (by decide)
      have Qf0 : Q.1 0 = 0 := by rw [← hQ]; rfl
      have Qf3 : Q.1 3 = r.1 3 := by rw [← hQ]; exact q3
      have Qf6 : Q.1 6 = 0 := by rw [← hQ]; rfl
      have Qf8 : Q.1 8 = 0 := by rw [← hQ]; exact q8
      have Qf12 : Q.1 12 = -1 := by rw [← hQ]; exact m12
      have Qz : Bz Q := by rw [← hQ]; exact qz
      have GE : GS N x o ps ys (m_setI K5 x 7 0) Q := by
        refine ⟨B1.kr rfl rfl rfl, ⟨by show m_kd K5 o = _; rw [C.1.2.1]; exact k1, k2, by show o < m_sz K5; rw [C.1.1]; exact k3, fun b hb => by show (m_kd K5 b).1 = 0; rw [C.1.2.1]; exact k4 b (by rw [← C.1.1]; exact hb)⟩, fun g hg => ?_, ?_, ⟨?_, ?_, fun k hk => ?_⟩, ⟨?_, Qz⟩, ⟨?_, ?_⟩, ⟨?_, ?_, fun k hk => ?_⟩⟩
        · rw [iv_ne (by omega), C.2.1 _ (by omega)]; exact T g hg
        · rw [Q1]
          exact (C.gtS h2 GT15 bn.2.1).fld tn
        · rw [ix 1 (by decide), Qf8]
          exact u1.trans q8
        · rw [Qf8]
          exact ⟨0, by decide, rfl⟩
        · rw [iv_ne (by omega), C.2.1 _ (by omega), Q7]
          exact (u3 k hk).trans (congrFun (q2 7 (by decide) (by decide)) k)
        · rw [ix 2 (by decide), Qf12]
          exact ff.1.trans m12
        · rw [ix 5 (by decide), Qf3]
          exact i1.trans q3
        · rw [Qf3, Q2]
          have i2' : r.1 3 = 0 ∨ (r.1 3 = 1 ∧ GT N (x + 628) M15 (x + 43) (r.2 2)) := by
            have h := i2
            rw [show (setM q (r.2 1)).1 3 = r.1 3 from q3, show (setM q (r.2 1)).2 2 = r.2 2 from q2 2 (by decide) (by decide)] at h
            exact h
          exact i2'.imp id fun w => ⟨w.1, (C.gt w.2 bn.2.1 (by omega) (by omega)).fld tkk⟩
        · rw [iv_same, up1_same, Qf6]
        · rw [Qf6]; exact ⟨0, by decide, rfl⟩
        · rw [Qf6] at hk
          exact absurd hk (Nat.not_lt_zero k)
      have vE : m_iv (m_setI K5 x 7 0) (x + 2) 7 = m'' 0 := by
        have := GE.R.v0
        rw [Q1] at this
        exact this
      refine both_ok (v := m'' 0) GE Qf0 ?_ ?_
      · unfold f_L_town
        have p15 : pI (m_setI L x 2 (-1)) 7 (x + 85) 7 (m' 0 + 1) = some M15 := by rw [G5.A.td.p0, hM15]
        rw [G.A.c, ob, cl0, decide_eq_true (rfl : (-1 : Int32) = -1), if_neg (show ¬ b01 true = 0 by decide), e3, ob, e4, ob, if_pos (show iN (cn (r.2 1) 0) < 12 from iN_ylt (n := 12) h12 (by decide)), G5.A.gD, ob, G5.A.td.i0, ob, ix0, p15, ob, A15.gN, ob, A15.gD, ob, A15.tn.c0, ob, h1, ob, B1.p, ob, GE.A.gN, ob, GE.S.i0, ob, vE, ob, sx_l]
        rfl
      · rw [hmd, hv0, if_neg (show ¬ iN (cn (r.2 1) 0) = 12 from iN_ne (b := 12) (by omega) (by omega) (by decide))]
        unfold f_R_town_66
        rw [set_s, if_pos (i_le_rfl 0), rlm0, ob, show (r_set q 0 0).2 1 = m' from qm, show rst (r_set q 0 0) 1 0 (m' 0 + 1) = some (setM (r_set q 0 0) (up1 ((r_set q 0 0).2 1) 0 (m' 0 + 1))) from rw1 (k := 0) (by decide), ob, show (r_set q 0 0).2 1 = m' from qm, hm2, hQ, rlm0, ob, Q1]
    · have e12 : cn (r.2 1) 0 = 12 := by omega
      refine both_ex (c := 2) (v := 0) (G5.s0 (back 2)).new (by decide) (set_s q 0 2) ?_ ?_
      · unfold f_L_town
        rw [G.A.c, ob, cl0, decide_eq_true (rfl : (-1 : Int32) = -1), if_neg (show ¬ b01 true = 0 by decide), e3, ob, e4, ob, e12, if_neg (show ¬ iN 12 < 12 by decide), ob, sx_r, if_neg (by decide), if_pos rfl]
      · rw [hmd, hm' 0 (by omega), h0, e12, if_pos (show iN 12 = 12 from rfl), thr 2 (by decide)]
  · refine both_ex (c := 1) (v := 0) (G5.s0 (back 1)).new i1n (set_s q 0 1) ?_ ?_
    · unfold f_L_town
      rw [G.A.c, ob, cl0, decide_eq_false hf, if_pos (show b01 false = 0 from rfl), ob, sx_r, if_pos rfl]
    · rw [hmd, if_neg (by rw [m12]; exact hf), thr 1 (by decide)]
end Vt
