section Vm
variable {N en i j k p t w b rd xx tk lo n o : Nat} {tx : Nat → Int32} {K L M : Mem} {f v u g hc hm a c d : Int32} {r q : Rho} {m m2 z : Nat → Int32}
theorem ppS_md (hn : n < 10) (ho : o < 10) (hr : r.2 1 = z) : (f_R_meets (iN n) (iN o) 0 (-1) r).bind (fun z21 => f_R_meets (iN o) (iN n) 0 (-1) z21) = some (setM r (ppS n o z)) := by
  unfold f_R_meets ppS
  rw [show ((172 : Int32) + 10 * iN n) + iN o = iN (172 + 10 * n + o) by simp only [q0, q1, q2, q3, q4, q5, q6, q7, q8, q10, q20, q92, q172, q272, q372, q420, q900, iN_mul, iN_add], rw1 (by omega), ob, show ((272 : Int32) + 10 * iN n) + iN o = iN (272 + 10 * n + o) by simp only [q0, q1, q2, q3, q4, q5, q6, q7, q8, q10, q20, q92, q172, q272, q372, q420, q900, iN_mul, iN_add], rw1 (by omega), ob, ob, show ((172 : Int32) + 10 * iN o) + iN n = iN (172 + 10 * o + n) by simp only [q0, q1, q2, q3, q4, q5, q6, q7, q8, q10, q20, q92, q172, q272, q372, q420, q900, iN_mul, iN_add], rw1 (by omega), ob, show ((272 : Int32) + 10 * iN o) + iN n = iN (272 + 10 * o + n) by simp only [q0, q1, q2, q3, q4, q5, q6, q7, q8, q10, q20, q92, q172, q272, q372, q420, q900, iN_mul, iN_add], rw1 (by omega), ob, setM_setM, setM_setM, setM_setM, setM_m, setM_m, setM_m, hr]
theorem p153 (hN : 500 < N) (a0 : Int32) (hn : n < 10) (h5 : r.2 1 5 = iN n) : f_R_personLine_153 N a0 N (iN n) 0 r = some (setM r (up1 (lp (ppS n) 10 0 (r.2 1)) 5 (iN (n + 1)))) := by
  have key : ∀ j, j ≤ 10 → ∀ (s : Rho) fuel, j < fuel → s.2 1 5 = iN n → f_R_personLine_153 N a0 fuel (iN n) (iN (10 - j)) s = some (setM s (up1 (lp (ppS n) j (10 - j) (s.2 1)) 5 (iN (n + 1)))) := by
    intro j
    induction j with
    | zero =>
      intro _ s fuel hf hs
      obtain ⟨fu, rfl⟩ : ∃ fu, fuel = fu + 1 := ⟨fuel - 1, by omega⟩
      rw [f_R_personLine_153, if_pos (show (10 : Int32) ≤ iN (10 - 0) by decide), rlm5, ob, hs, iN_s, show rst s 1 5 (iN (n + 1)) = some (setM s (up1 (s.2 1) 5 (iN (n + 1)))) from rw1 (k := 5) (by decide), ob, lp_zero]
    | succ j ih =>
      intro hj s fuel hf hs
      obtain ⟨fu, rfl⟩ : ∃ fu, fuel = fu + 1 := ⟨fuel - 1, by omega⟩
      have e := ppS_md (r := s) (o := 10 - (j + 1)) hn (by omega) rfl
      have e5 : (setM s (ppS n (10 - (j + 1)) (s.2 1))).2 1 5 = iN n := by
        rw [setM_m]
        unfold ppS
        rw [up1_ne (by omega), up1_ne (by omega), up1_ne (by omega), up1_ne (by omega)]
        exact hs
      have ih := ih (by omega) (setM s (ppS n (10 - (j + 1)) (s.2 1))) fu (by omega) e5
      rw [setM_m, setM_setM] at ih
      rw [f_R_personLine_153, if_neg (show ¬ (10 : Int32) ≤ iN (10 - (j + 1)) from iN_nle (n := 10) (by omega) (by decide))]
      have e' : ∀ F : Rho → Option Rho, ((f_R_meets (iN n) (iN (10 - (j + 1))) 0 (-1) s).bind fun z21 => (f_R_meets (iN (10 - (j + 1))) (iN n) 0 (-1) z21).bind F) = F (setM s (ppS n (10 - (j + 1)) (s.2 1))) := fun F => by
        rw [← Option.bind_assoc, e, ob]
      rw [e', iN_s, lp_succ, show 10 - (j + 1) + 1 = 10 - j by omega]
      exact ih
  exact key 10 (by decide) r N (by omega) h5
theorem hasN (hn : n < 10) {e : Nat} (he : e < 8) (v : Int32) : f_R_has (iN n) (iN e) v r = some (setM r (up1 (r.2 1) (92 + 8 * n + e) v)) := by
  unfold f_R_has
  rw [show ((92 : Int32) + 8 * iN n) + iN e = iN (92 + 8 * n + e) by simp only [q0, q1, q2, q3, q4, q5, q6, q7, q8, q10, q20, q92, q172, q272, q372, q420, q900, iN_mul, iN_add], rw1 (by omega), ob]
theorem person_ln (H : TLS K rd xx t en tx i tk f) (hen : en ≤ 400) (hN : 500 < N) (I : Inv m) (R : TRel K t m) (h4 : f = -1 → cn m 5 < 10) (a0 : Int32) : LNS rd xx t en tx K i f m (f_TR_readPerson_16 N rd K) (f_R_personLine_16 N a0) := by
  obtain ⟨v1, L1, i1, t1, f1, c1, q1, H1, d1, e1, m1⟩ := num_b (lo := 0) (hc := m_iv K (t + 1) 1 - 1) (hm := m 3 - 1) H hen hN (by decide) fun _ => by rw [R.v3]
  obtain ⟨v2, L2, i2, t2, f2, c2, q2, H2, d2, e2, m2⟩ := greet_b (N := N) H1 hen hN
  obtain ⟨L3, i3, t3, f3, c3, q3, H3, d3, m3⟩ := word_b (N := N) H2 hen hN (wc := 22) (wm := 54) (by decide) (by decide) rfl
  obtain ⟨v4, L4, i4, t4, f4, c4, q4, H4, d4, e4, m4⟩ := num_b (N := N) (lo := 0) (hc := 9) (hm := 9) H3 hen hN (by decide) fun _ => rfl
  obtain ⟨L5, i5, t5, f5, c5, q5, H5, d5, m5⟩ := word_b (N := N) H4 hen hN (wc := 23) (wm := 64) (by decide) (by decide) rfl
  obtain ⟨v6, L6, i6, t6, f6, c6, q6, H6, d6, e6, m6⟩ := num_b (N := N) (lo := 0) (hc := 100) (hm := 100) H5 hen hN (by decide) fun _ => rfl
  have qq := ((((q1.trans q2).trans q3).trans q4).trans q5).trans q6
  have R4 := H.rel qq R
  have cls : f_TR_readPerson_16 N rd K = if f6 = -1 then (f_Town_addPerson t v1 v2 v4 v6 L6).bind fun z15 => some z15 else some L6 := by
    have c1 : f_TxR_readNumber_8 N rd 0 (m_iv K (t + 1) 1 - 1) K = some (v1, L1) := c1
    have c4 : f_TxR_readNumber_8 N rd 0 9 L3 = some (v4, L4) := c4
    have c6 : f_TxR_readNumber_8 N rd 0 100 L5 = some (v6, L6) := c6
    unfold f_TR_readPerson_16
    rw [H.g6, ob, H.S.g_lands, ob, H.S.i1, ob, H.A.fc, ob, c1, ob, H1.A.fc, ob, c2, ob, H2.A.fc, ob, c3, ob, H3.A.fc, ob, c4, ob, H4.A.fc, ob, c5, ob, H5.A.fc, ob, c6, ob, H6.A.fc, ob, H6.wr, ob]
    by_cases h : f6 = -1
    · rw [if_pos h, if_pos h, if_pos rfl, H6.g6, ob, H6.S.c0, ob]
    · rw [if_neg h, if_neg h, if_neg i1n]
  have mdl : ∀ r, TXm r tx en → MS r tx en i f 6 → r.2 1 = m → ∃ w1 w2 w4 w6 q, f_R_personLine_16 N a0 r = (if (q.1 12) = (-1) then ((rld q 1 5).bind fun v10 => (f_R_has v10 0 w1 q).bind fun z11 => (f_R_has v10 1 w2 z11).bind fun z12 => (f_R_has v10 2 w4 z12).bind fun z13 => (f_R_has v10 3 w6 z13).bind fun z14 => (f_R_has v10 4 0 z14).bind fun z15 => (f_R_has v10 5 0 z15).bind fun z16 => (f_R_has v10 6 (-1) z16).bind fun z17 => (f_R_has v10 7 (-1) z17).bind fun z18 => f_R_personLine_153 N a0 N v10 0 z18) else (some q)) ∧ Lx r q ∧ MS q tx en i6 f6 6 ∧ (f1 = -1 → w1 = v1) ∧ (f2 = -1 → w2 = v2) ∧ (f4 = -1 → w4 = v4) ∧ (f6 = -1 → w6 = v6) := fun r hT ms hr => by
    obtain ⟨w1, r1, o1, o2, o3, o4⟩ := m1 r hT ms
    obtain ⟨w2, r2, p1, p2, p3, p4⟩ := m2 r1 (hT.lx o2) o3
    have x2 := o2.trans p2
    obtain ⟨r3, s1, s2, s3⟩ := m3 r2 (hT.lx x2) p3
    have x3 := x2.trans s2
    obtain ⟨w4, r4, u1, u2, u3, u4⟩ := m4 r3 (hT.lx x3) s3
    have x4 := x3.trans u2
    obtain ⟨r5, y1, y2, y3⟩ := m5 r4 (hT.lx x4) u3
    have x5 := x4.trans y2
    obtain ⟨w6, r6, k1, k2, k3, k4⟩ := m6 r5 (hT.lx x5) y3
    refine ⟨w1, w2, w4, w6, r6, ?_, x5.trans k2, k3, o4, p4, u4, k4⟩
    have o1 : f_R_figures N 0 (m 3 - 1) r = some (w1, r1) := o1
    have u1 : f_R_figures N 0 9 r3 = some (w4, r4) := u1
    have k1 : f_R_figures N 0 100 r5 = some (w6, r6) := k1
    unfold f_R_personLine_16
    rw [rlm3, ob, hr, o1, ob, p1, ob, s1, ob, u1, ob, y1, ob, k1, ob]
  by_cases hf : f6 = -1
  · have hf5 : f5 = -1 := Classical.byContradiction fun h => d6 h hf
    have hf4 : f4 = -1 := Classical.byContradiction fun h => d5 h hf5
    have hf3 : f3 = -1 := Classical.byContradiction fun h => d4 h hf4
    have hf2 : f2 = -1 := Classical.byContradiction fun h => d3 h hf3
    have hf1 : f1 = -1 := Classical.byContradiction fun h => d2 h hf2
    have hf0 : f = -1 := Classical.byContradiction fun h => d1 h hf1
    obtain ⟨-, a, rfl, a1, a2, a3⟩ := e1 hf1
    obtain ⟨-, c, rfl, b1, b2, b3⟩ := e4 hf4
    obtain ⟨-, d, rfl, g1, g2, g3⟩ := e6 hf
    have hn := I.n5
    have hc := h4 hf0
    generalize cn m 5 = n at *
    rw [R.v3, I.n3] at a3
    have na : nx (iN a) (cn m 3) := ⟨a, le_pred a2 (by have := I.b3; omega) a3, rfl⟩
    have nc : nb (iN c) 9 := le_nb (b := 9) b2 (by decide) b3
    have nd : nb (iN d) 100 := le_nb (b := 100) g2 (by decide) g3
    obtain ⟨I2, R2⟩ := pp_T (n := n) R4 I hn hc na (e2 hf2) nc nd
    refine ⟨_, i6, t6, f6, _, by rw [cls, if_pos hf, addPerson_eq (n := n) H6.S (by rw [R4.v5, hn]) hc, ob], ?_, ?_, fun _ => ⟨I2, R2⟩, fun r hT ms hr => ?_⟩
    · unfold ppK
      have T1 := (((H6.set (o := 11 + 3 * n) (by omega) 0 (iN a)).set (o := 11 + 3 * n) (by omega) 1 v2).set (o := 11 + 3 * n) (by omega) 2 (iN c)).set (o := 11 + 3 * n) (by omega) 3 (iN d)
      rw [← Nat.add_assoc] at T1
      exact T1.set (o := 0) (by decide) _ _
    · unfold ppK
      have T1 := (((qq.frt.set (t := t) (o := 11 + 3 * n) (by omega) 0 (iN a)).set (o := 11 + 3 * n) (by omega) 1 v2).set (o := 11 + 3 * n) (by omega) 2 (iN c)).set (o := 11 + 3 * n) (by omega) 3 (iN d)
      rw [← Nat.add_assoc] at T1
      exact T1.set (o := 0) (by decide) _ _
    · obtain ⟨w1, w2, w4, w6, q, p1, p2, p3, p4, p5, p6, p7⟩ := mdl r hT ms hr
      have hq : q.2 1 = m := by rw [p2.1, hr]
      refine ⟨setM q (ppM m n (iN a) v2 (iN c) (iN d)), ?_, p2.lym fun k hk => ?_, p3.set _, fun _ => setM_m _ _⟩
      · rw [p1, if_pos (p3.1 hf).1, p4 hf1, p5 hf2, p6 hf4, p7 hf, rlm5, ob, hq, hn]
        have h8 : ∀ v1 v2 v4 v6, ((f_R_has (iN n) 0 v1 q).bind fun z11 => (f_R_has (iN n) 1 v2 z11).bind fun z12 => (f_R_has (iN n) 2 v4 z12).bind fun z13 => (f_R_has (iN n) 3 v6 z13).bind fun z14 => (f_R_has (iN n) 4 0 z14).bind fun z15 => (f_R_has (iN n) 5 0 z15).bind fun z16 => (f_R_has (iN n) 6 (-1) z16).bind fun z17 => (f_R_has (iN n) 7 (-1) z17).bind fun z18 => f_R_personLine_153 N a0 N (iN n) 0 z18) = f_R_personLine_153 N a0 N (iN n) 0 (setM q (pp8 m n v1 v2 v4 v6)) := fun v1 v2 v4 v6 => by
          have h : ∀ (s : Rho) (e : Nat) (v : Int32), e < 8 → f_R_has (iN n) (iN e) v s = some (setM s (up1 (s.2 1) (92 + 8 * n + e) v)) := fun s e v he => hasN hc he v
          rw [show f_R_has (iN n) 0 v1 q = _ from h q 0 v1 (by decide), ob, show ∀ s v, f_R_has (iN n) 1 v s = _ from fun s v => h s 1 v (by decide), ob, show ∀ s v, f_R_has (iN n) 2 v s = _ from fun s v => h s 2 v (by decide), ob, show ∀ s v, f_R_has (iN n) 3 v s = _ from fun s v => h s 3 v (by decide), ob, show ∀ s v, f_R_has (iN n) 4 v s = _ from fun s v => h s 4 v (by decide), ob, show ∀ s v, f_R_has (iN n) 5 v s = _ from fun s v => h s 5 v (by decide), ob, show ∀ s v, f_R_has (iN n) 6 v s = _ from fun s v => h s 6 v (by decide), ob, show ∀ s v, f_R_has (iN n) 7 v s = _ from fun s v => h s 7 v (by decide), ob]
          simp only [setM_setM, setM_m, hq]
          rfl
        rw [h8, p153 hN a0 hc (by rw [setM_m, pp8_o (by omega), hn]), setM_setM, setM_m]
        rfl
      · rw [hr]
        exact ppM_o hc (by omega) (by omega)
  · refine ⟨L6, i6, t6, f6, m, by rw [cls, if_neg hf], H6, qq.frt, fun h => absurd h hf, fun r hT ms hr => ?_⟩
    obtain ⟨w1, w2, w4, w6, q, p1, p2, p3, -⟩ := mdl r hT ms hr
    refine ⟨q, ?_, p2.ly, p3, fun h => absurd h hf⟩
    rw [p1, if_neg (by rw [(p3.2 hf).1]; exact hf)]
theorem cold_ln (H : TLS K rd xx t en tx i tk f) (hen : en ≤ 400) (hN : 500 < N) (I : Inv m) (R : TRel K t m) : LNS rd xx t en tx K i f m (f_TR_readCold N rd K) (fun r => (rld r 1 5).bind fun v15 => (f_R_figures N 0 (v15 - 1) r).bind fun z16 => if (z16.2.1 12) = (-1) then ((f_R_has z16.1 4 1 z16.2).bind fun z17 => some z17) else (some z16.2)) := by
  obtain ⟨v1, L1, i1, t1, f1, c1, q1, H1, d1, e1, m1⟩ := num_b (lo := 0) (hc := m_iv K t 2 - 1) (hm := m 5 - 1) H hen hN (by decide) fun _ => by rw [R.v5]
  have R1 := H.rel q1 R
  have c1 : f_TxR_readNumber_8 N rd 0 (m_iv K t 2 - 1) K = some (v1, L1) := c1
  by_cases hf : f1 = -1
  · obtain ⟨-, a, rfl, a1, a2, a3⟩ := e1 hf
    rw [R.v5, I.n5] at a3
    have ha : a < cn m 5 := le_pred a2 (by have := I.b5; omega) a3
    have h5 := I.b5
    refine ⟨m_setI L1 (t + 11 + 3 * a) 4 1, i1, t1, f1, up1 m (92 + 8 * a + 4) 1, ?_, ?_, ?_, fun _ => ⟨I.pset ha (Or.inr ⟨rfl, Or.inr rfl⟩), R1.pset I ha (Or.inr rfl)⟩, fun r hT ms hr => ?_⟩
    · unfold f_TR_readCold
      rw [H.g6, ob, H.S.i0, ob, H.A.fc, ob, c1, ob, H1.A.fc, ob, H1.wr, ob, if_pos hf, if_pos rfl, H1.g6, ob, H1.S.g_people, ob, H1.S.g_person (by omega), ob, H1.S.zP (by omega) 4 (Or.inr rfl), ob]
    · have T1 := H1.set (o := 11 + 3 * a) (by omega) 4 1
      rw [← Nat.add_assoc] at T1
      exact T1
    · have T1 := q1.frt.set (t := t) (o := 11 + 3 * a) (by omega) 4 1
      rw [← Nat.add_assoc] at T1
      exact T1
    · obtain ⟨w, q, o1, o2, o3, o4⟩ := m1 r hT ms
      have o1 : f_R_figures N 0 (m 5 - 1) r = some (w, q) := o1
      refine ⟨setM q (up1 m (92 + 8 * a + 4) 1), ?_, o2.lym fun k hk => by rw [hr, up1_ne (by omega)], o3.set _, fun _ => setM_m _ _⟩
      dsimp only
      rw [rlm5, ob, hr, o1, ob, if_pos (o3.1 hf).1, o4 hf, show f_R_has (iN a) 4 1 q = _ from hasN (n := a) (e := 4) (by omega) (by decide) 1, ob, o2.1, hr]
  · refine ⟨L1, i1, t1, f1, m, ?_, H1, q1.frt, fun h => absurd h hf, fun r hT ms hr => ?_⟩
    · unfold f_TR_readCold
      rw [H.g6, ob, H.S.i0, ob, H.A.fc, ob, c1, ob, H1.A.fc, ob, H1.wr, ob, if_neg hf, if_neg i1n]
    · obtain ⟨w, q, o1, o2, o3, o4⟩ := m1 r hT ms
      have o1 : f_R_figures N 0 (m 5 - 1) r = some (w, q) := o1
      refine ⟨q, ?_, o2.ly, o3, fun h => absurd h hf⟩
      dsimp only
      rw [rlm5, ob, hr, o1, ob, if_neg (by rw [(o3.2 hf).1]; exact hf)]
end Vm
