section Vn
variable {N en i j k p t w b rd xx tk lo n o : Nat} {tx : Nat → Int32} {K L M : Mem} {f v u g hc hm a c d : Int32} {r q : Rho} {m m2 z : Nat → Int32}
theorem place_b (hT : TXm r tx en) (hen : en ≤ 400) (hN : 500 < N) (ms : MS r tx en i f 6) : ∃ w q, f_R_place N r = some (w, q) ∧ Lx r q ∧ MS q tx en i f 6 ∧ (f = -1 → w = iN i) := by
  by_cases hf : f = -1
  · subst hf
    have ml := ms.1 rfl
    obtain ⟨q, m1, m2, m3, m4⟩ := skip_ml hT hen hN ml
    refine ⟨_, q, by unfold f_R_place; rw [m1, ob], m2, MS.l (ML.at0 ml.le ml.sk m3 m4), fun _ => m4⟩
  · obtain ⟨b1, j, b2, b3⟩ := ms.2 hf
    by_cases h : j ≤ en
    · obtain ⟨q, a1, a2, a3, a4⟩ := skip_md hT hen hN h b3
      have := (sk_b (tx := tx) h).2
      refine ⟨_, q, by unfold f_R_place; rw [a1, ob], a2, ⟨fun h => absurd h hf, fun _ => ⟨a3.trans b1, _, by omega, a4⟩⟩, fun h => absurd h hf⟩
    · obtain ⟨fv, hfv⟩ : ∃ fv, N = fv + 1 := ⟨N - 1, by omega⟩
      have e : f_R_skip N r = some r := by
        have : ∀ g, g = fv + 1 → f_R_skip_0 N g r = some r := fun g hg => by
          rw [hg, f_R_skip_0, hT.1, b3, if_pos (iN_yle (by omega) (by omega))]
        exact this N hfv
      refine ⟨_, r, by unfold f_R_place; rw [e, ob], Lx.refl r, ms, fun h => absurd h hf⟩
theorem tie_ln (H : TLS K rd xx t en tx i tk f) (hen : en ≤ 400) (hN : 500 < N) (I : Inv m) (R : TRel K t m) (h4 : f = -1 → cn m 6 < 24) (a0 : Int32) : LNS rd xx t en tx K i f m (f_TR_readTie_16 N rd K) (f_R_tieLine_17 N a0) := by
  obtain ⟨v1, L1, i1, t1, f1, c1, q1, H1, d1, e1, m1⟩ := num_b (lo := 0) (hc := m_iv K t 2 - 1) (hm := m 5 - 1) H hen hN (by decide) fun _ => by rw [R.v5]
  have R1 := H.rel q1 R
  obtain ⟨v2, L2, i2, t2, f2, c2, q2, H2, d2, e2, m2⟩ := num_b (lo := 0) (hc := m_iv L1 t 2 - 1) (hm := m 5 - 1) H1 hen hN (by decide) fun _ => by rw [R1.v5]
  have R2 := H1.rel q2 R1
  have qq := q1.trans q2
  have c1 : f_TxR_readNumber_8 N rd 0 (m_iv K t 2 - 1) K = some (v1, L1) := c1
  have c2 : f_TxR_readNumber_8 N rd 0 (m_iv L1 t 2 - 1) L1 = some (v2, L2) := c2
  have mdl : ∀ r, TXm r tx en → MS r tx en i f 6 → r.2 1 = m → ∃ w1 w2 w3 q, f_R_tieLine_17 N a0 r = (if (q.1 12) = (-1) then (if w1 = w2 then (f_R_tieLine_75 N a0 w1 w3 w2 q) else ((f_R_areTied N w1 w2 q).bind fun z8 => if z8 = 0 then (f_R_tieLine_80 N a0 w1 w2 q) else (f_R_tieLine_75 N a0 w1 w3 w2 q))) else (f_R_tieLine_80 N a0 w1 w2 q)) ∧ Lx r q ∧ MS q tx en i2 f2 6 ∧ (f1 = -1 → w1 = v1) ∧ (f2 = -1 → w2 = v2) ∧ (f1 = -1 → w3 = iN i1) := fun r hT ms hr => by
    obtain ⟨w1, r1, o1, o2, o3, o4⟩ := m1 r hT ms
    obtain ⟨w3, r2, p1, p2, p3, p4⟩ := place_b (N := N) (hT.lx o2) hen hN o3
    have x2 := o2.trans p2
    obtain ⟨w2, r3, s1, s2, s3, s4⟩ := m2 r2 (hT.lx x2) p3
    refine ⟨w1, w2, w3, r3, ?_, x2.trans s2, s3, o4, s4, p4⟩
    have o1 : f_R_figures N 0 (m 5 - 1) r = some (w1, r1) := o1
    have s1 : f_R_figures N 0 (m 5 - 1) r2 = some (w2, r3) := s1
    unfold f_R_tieLine_17
    rw [rlm5, ob, hr, o1, ob]
    dsimp only
    rw [p1, ob]
    dsimp only
    rw [rlm5, ob, x2.1, hr, s1, ob]
  by_cases hf : f2 = -1
  · have hf1 : f1 = -1 := Classical.byContradiction fun h => d2 h hf
    have hf0 : f = -1 := Classical.byContradiction fun h => d1 h hf1
    obtain ⟨-, a, rfl, a1, a2, a3⟩ := e1 hf1
    obtain ⟨et, b, rfl, b1, b2, b3⟩ := e2 hf
    rw [R.v5, I.n5] at a3
    rw [R1.v5, I.n5] at b3
    have h5 := I.b5
    have ha : a < cn m 5 := le_pred a2 (by omega) a3
    have hb : b < cn m 5 := le_pred b2 (by omega) b3
    have hn := I.n6
    have hc := h4 hf0
    have hi1 := H1.ie
    subst hf
    subst et
    -- wrong, at the second number
    have bad : f_TR_readTie_16 N rd K = f_TR_readTie_71 N rd L2 → (∀ w3 q, q.2 1 = m → q.1 12 = -1 → w3 = iN t2 → (if iN a = iN b then (f_R_tieLine_75 N a0 (iN a) w3 (iN b) q) else ((f_R_areTied N (iN a) (iN b) q).bind fun z8 => if z8 = 0 then (f_R_tieLine_80 N a0 (iN a) (iN b) q) else (f_R_tieLine_75 N a0 (iN a) w3 (iN b) q))) = f_R_tieLine_75 N a0 (iN a) w3 (iN b) q) → LNS rd xx t en tx K i f m (f_TR_readTie_16 N rd K) (f_R_tieLine_17 N a0) := fun hcl hmd => by
      obtain ⟨L3, l1, l2, l3⟩ := takenIsWrong_8 H2.A H2.C
      rw [if_pos rfl] at l3
      have hne : iN t2 ≠ -1 := iN_m1 (by omega)
      refine ⟨L3, i2, t2, iN t2, m, ?_, H2.rq l2 l3, (qq.trans l2).frt, fun h => absurd h hne, fun r hT ms hr => ?_⟩
      · rw [hcl]
        unfold f_TR_readTie_71
        rw [H2.A.fc, ob, l1, ob]
      · obtain ⟨w1, w2, w3, q, p1, p2, p3, p4, p5, p6⟩ := mdl r hT ms hr
        have hq : q.2 1 = m := by rw [p2.1, hr]
        have ml := p3.1 rfl
        have q12 := ml.1
        obtain ⟨-, j, j1, j2, -⟩ := ml
        refine ⟨r_set q 12 (iN t2), ?_, (p2.trans (Lx.s12 _ _)).ly, MS.d hi1 hen ⟨set_s _ _ _, j, by omega, (set_f (by decide)).trans j2⟩, fun h => absurd h hne⟩
        rw [p1, if_pos q12, p4 hf1, p5 rfl, hmd w3 q hq q12 (p6 hf1), p6 hf1]
        unfold f_R_tieLine_75 f_R_tieLine_80
        rw [wrong_md q12, ob, set_s, if_neg hne]
    have pre : f_TR_readTie_16 N rd K = (if iN a = iN b then (f_TR_readTie_71 N rd L2) else ((f_Town_areTied t (iN a) (iN b) L2).bind fun z12 => if z12 = 0 then ((f_Town_addTie t (iN a) (iN b) L2).bind fun z14 => some z14) else (f_TR_readTie_71 N rd L2))) := by
      unfold f_TR_readTie_16
      rw [H.g6, ob, H.S.i0, ob, H.A.fc, ob, c1, ob]
      dsimp only
      rw [H1.g6, ob, H1.S.i0, ob, H1.A.fc, ob, c2, ob]
      dsimp only
      rw [H2.A.fc, ob, H2.wr, ob, if_pos rfl, if_pos rfl, H2.g6, ob, H2.S.c0, ob, ob, H2.S.c0, ob]
    by_cases hab : a = b
    · exact bad (by rw [pre, if_pos (congrArg iN hab)]) fun w3 q _ _ _ => if_pos (congrArg iN hab)
    · have hne : iN a ≠ iN b := iN_ne hab (by omega) (by omega)
      have et : f_Town_areTied t (iN a) (iN b) L2 = some (b01 (tdB m a b)) := f_Town_areTied_eq H2.S I R2 ha hb
      have etm : ∀ q : Rho, q.2 1 = m → f_R_areTied N (iN a) (iN b) q = some (b01 (tdB m a b)) := fun q hq => by
        have := f_R_areTied_eq (N := N) (r := q) (by rw [hq]; exact I) (by omega) a b
        rw [hq] at this
        exact this
      cases ht : tdB m a b
      · rw [ht] at et etm
        generalize cn m 6 = n at *
        obtain ⟨I2, RR⟩ := at_T R2 I hn hc ha hb hab ht
        refine ⟨_, i2, t2, -1, _, by rw [pre, if_neg hne, et, ob, if_pos (show b01 false = 0 from rfl), addTie_eq (n := n) H2.S (by rw [R2.v6, hn]) hc (by omega) (by omega) hab, ob], ?_, ?_, fun _ => ⟨I2, RR⟩, fun r hT ms hr => ?_⟩
        · unfold atK
          have T1 := ((((H2.set (o := 7) (by decide) n (iN a)).set (o := 8) (by decide) n (iN b)).set (o := 0) (by decide) 5 (iN (n + 1))).set (o := 11 + 3 * a) (by omega) 5 (m_iv L2 (t + 11 + 3 * a) 5 ||| ((1 : Int32) <<< (iN b &&& 31)))).set (o := 11 + 3 * b) (by omega) 5 (m_iv L2 (t + 11 + 3 * b) 5 ||| ((1 : Int32) <<< (iN a &&& 31)))
          rw [← Nat.add_assoc, ← Nat.add_assoc] at T1
          exact T1
        · unfold atK
          have T1 := ((((qq.frt.set (t := t) (o := 7) (by decide) n (iN a)).set (o := 8) (by decide) n (iN b)).set (o := 0) (by decide) 5 (iN (n + 1))).set (o := 11 + 3 * a) (by omega) 5 (m_iv L2 (t + 11 + 3 * a) 5 ||| ((1 : Int32) <<< (iN b &&& 31)))).set (o := 11 + 3 * b) (by omega) 5 (m_iv L2 (t + 11 + 3 * b) 5 ||| ((1 : Int32) <<< (iN a &&& 31)))
          rw [← Nat.add_assoc, ← Nat.add_assoc] at T1
          exact T1
        · obtain ⟨w1, w2, w3, q, p1, p2, p3, p4, p5, p6⟩ := mdl r hT ms hr
          have hq : q.2 1 = m := by rw [p2.1, hr]
          have q12 := (p3.1 rfl).1
          refine ⟨setM q (atM m n (iN a) (iN b)), ?_, p2.lym fun k hk => ?_, p3.set _, fun _ => setM_m _ _⟩
          · rw [p1, if_pos q12, p4 hf1, p5 rfl, if_neg hne, etm q hq, ob, if_pos (show b01 false = 0 from rfl)]
            unfold f_R_tieLine_80
            rw [if_pos q12, binds_eq (n := n) (by rw [hq]; exact hn) hc, ob, hq]
          · rw [hr]
            exact atM_o hc (by omega) (by omega)
      · rw [ht] at et etm
        refine bad (by rw [pre, if_neg hne, et, ob, if_neg (show ¬ b01 true = 0 from i1n)]) fun w3 q hq _ _ => ?_
        rw [if_neg hne, etm q hq, ob, if_neg (show ¬ b01 true = 0 from i1n)]
  · refine ⟨L2, i2, t2, f2, m, ?_, H2, qq.frt, fun h => absurd h hf, fun r hT ms hr => ?_⟩
    · unfold f_TR_readTie_16
      rw [H.g6, ob, H.S.i0, ob, H.A.fc, ob, c1, ob]
      dsimp only
      rw [H1.g6, ob, H1.S.i0, ob, H1.A.fc, ob, c2, ob]
      dsimp only
      rw [H2.A.fc, ob, H2.wr, ob, if_neg hf, if_neg i1n]
    · obtain ⟨w1, w2, w3, q, p1, p2, p3, -⟩ := mdl r hT ms hr
      have hq : ¬ q.1 12 = -1 := by rw [(p3.2 hf).1]; exact hf
      refine ⟨q, ?_, p2.ly, p3, fun h => absurd h hf⟩
      rw [p1, if_neg hq]
      unfold f_R_tieLine_80
      rw [if_neg hq]
theorem LNS.step (g : Rq rd K L) {i1 : Nat} {f1 : Int32} {cls : Option Mem} {md md0 : Rho → Option Rho} (h : LNS rd xx t en tx L i1 f1 m cls md0) (hs : ∀ r, TXm r tx en → MS r tx en i f 6 → r.2 1 = m → ∃ r0, Lx r r0 ∧ MS r0 tx en i1 f1 6 ∧ md r = md0 r0) : LNS rd xx t en tx K i f m cls md := by
  obtain ⟨L2, i', tk', f', m', h1, h2, h3, h4, h5⟩ := h
  refine ⟨L2, i', tk', f', m', h1, h2, g.frt.trans h3, h4, fun r hT ms hr => ?_⟩
  obtain ⟨r0, o1, o2, o3⟩ := hs r hT ms hr
  obtain ⟨q, p1, p2, p3, p4⟩ := h5 r0 (hT.lx o1) o2 (by rw [o1.1]; exact hr)
  exact ⟨q, o3.trans p1, o1.ly.trans p2, p3, p4⟩
theorem LNS.word (H : TLS K rd xx t en tx i tk (-1)) (hen : en ≤ 400) (hN : 500 < N) {wc wm : Nat} (hw : wdB wc = true) (hw2 : wdB wm = true) (he : s_byt wm = s_byt wc) {F : Int32 × Mem → Option Mem} {G : Int32 × Rho → Option Rho} {A : Option Mem} {B : Mem → Option Mem} {ma mb : Rho → Option Rho} (f0 : F (0, K) = A) (f1 : ∀ L, F (1, L) = B L) (g0 : ∀ r, G (0, r) = ma r) (g1 : ∀ r, G (1, r) = mb r) (no : LNS rd xx t en tx K i (-1) m A ma) (yes : ∀ L i1, Rq rd K L → TLS L rd xx t en tx i1 i (-1) → LNS rd xx t en tx L i1 (-1) m (B L) mb) : LNS rd xx t en tx K i (-1) m ((f_TxR_takeWord_8 N rd wc K).bind F) (fun r => (f_R_has_ N wm r).bind G) := by
  have hi := H.ie
  rcases takeWord_8 (N := N) H.A H.x hen hN H.C hw with ⟨-, h1, L1, l1, l2, l3⟩ | ⟨h1, l1⟩
  · rw [l1, ob, f1]
    refine LNS.step l2 (yes L1 _ l2 (H.rq l2 l3)) fun r hT ms hr => ?_
    obtain ⟨q, p1, p2, p3, p4⟩ := has_y (N := N) (w := wm) hT hen hN (ms.1 rfl) hw2 (by rw [he]; exact h1)
    exact ⟨q, p2, MS.l (ML.at (lw_b hi).2 p3 p4), by rw [p1, ob, g1]⟩
  · rw [l1, ob, f0]
    refine LNS.step (Rq.refl K) no fun r hT ms hr => ?_
    obtain ⟨q, p1, p2, p3⟩ := has_n (N := N) (w := wm) hT hen hN (ms.1 rfl) hw2 (fun y => h1 ⟨rfl, by rw [← he]; exact y⟩)
    exact ⟨q, p2, MS.l p3, by rw [p1, ob, g0]⟩
theorem wrong_b (hen : en ≤ 400) (hp : p ≤ en) (ms : MS r tx en i (-1) 6) : f_R_wrong (iN p) r = some (r_set r 12 (iN p)) ∧ Lx r (r_set r 12 (iN p)) ∧ MS (r_set r 12 (iN p)) tx en i (iN p) 6 := by
  have ml := ms.1 rfl
  have q12 := ml.1
  obtain ⟨-, j, j1, j2, -⟩ := ml
  exact ⟨wrong_md q12 _, Lx.s12 _ _, MS.d hp hen ⟨set_s _ _ _, j, by omega, (set_f (by decide)).trans j2⟩⟩
theorem habit_all (H : TLS K rd xx t en tx i tk (-1)) (hen : en ≤ 400) (hN : 500 < N) (I : Inv m) (R : TRel K t m) : LNS rd xx t en tx K i (-1) m (f_TR_readHabit N rd K) (f_R_habitLine N (iN tk)) := by
  have hb := I.b4
  have hn := I.n4
  unfold f_TR_readHabit
  rw [H.g6, ob, H.S.g_lands, ob, H.S.i1, ob, R.v4, hn]
  by_cases h : cn m 4 < 24
  · rw [if_pos (show iN (cn m 4) < 24 from iN_ylt (n := 24) h (by decide))]
    refine LNS.step (Rq.refl K) (habit_ln H hen hN I R (fun _ => h) (iN tk)) fun r hT ms hr => ⟨r, Lx.refl r, ms, ?_⟩
    unfold f_R_habitLine
    rw [rlm4, ob, hr, hn, if_neg (show ¬ iN (cn m 4) = 24 from iN_ne (b := 24) (by omega) (by omega) (by decide))]
  · rw [if_neg (show ¬ iN (cn m 4) < 24 from fun y => absurd (iN_yle (n := 24) (k := cn m 4) (by omega) (by omega)) (Int32.not_le.mpr y)), H.A.fc, ob]
    obtain ⟨L, l1, l2, l3⟩ := takenIsWrong_8 H.A H.C
    rw [if_pos rfl] at l3
    have H2 := H.rq l2 l3
    have hte := H.te
    rw [l1, ob]
    refine LNS.step l2 (habit_ln H2 hen hN I (H.rel l2 R) (fun y => absurd y (iN_m1 (by omega))) (iN tk)) fun r hT ms hr => ?_
    obtain ⟨w1, w2, w3⟩ := wrong_b (p := tk) hen hte ms
    refine ⟨_, w2, w3, ?_⟩
    unfold f_R_habitLine
    rw [rlm4, ob, hr, hn, if_pos (show iN (cn m 4) = 24 from congrArg iN (show cn m 4 = 24 by omega)), w1, ob]
theorem person_all (H : TLS K rd xx t en tx i tk (-1)) (hen : en ≤ 400) (hN : 500 < N) (I : Inv m) (R : TRel K t m) : LNS rd xx t en tx K i (-1) m (f_TR_readPerson N rd K) (f_R_personLine N (iN tk)) := by
  have hb := I.b5
  have hn := I.n5
  unfold f_TR_readPerson
  rw [H.g6, ob, H.S.i0, ob, R.v5, hn]
  by_cases h : cn m 5 < 10
  · rw [if_pos (show iN (cn m 5) < 10 from iN_ylt (n := 10) h (by decide))]
    refine LNS.step (Rq.refl K) (person_ln H hen hN I R (fun _ => h) (iN tk)) fun r hT ms hr => ⟨r, Lx.refl r, ms, ?_⟩
    unfold f_R_personLine
    rw [rlm5, ob, hr, hn, if_neg (show ¬ iN (cn m 5) = 10 from iN_ne (b := 10) (by omega) (by omega) (by decide))]
  · rw [if_neg (show ¬ iN (cn m 5) < 10 from fun y => absurd (iN_yle (n := 10) (k := cn m 5) (by omega) (by omega)) (Int32.not_le.mpr y)), H.A.fc, ob]
    obtain ⟨L, l1, l2, l3⟩ := takenIsWrong_8 H.A H.C
    rw [if_pos rfl] at l3
    have H2 := H.rq l2 l3
    have hte := H.te
    rw [l1, ob]
    refine LNS.step l2 (person_ln H2 hen hN I (H.rel l2 R) (fun y => absurd y (iN_m1 (by omega))) (iN tk)) fun r hT ms hr => ?_
    obtain ⟨w1, w2, w3⟩ := wrong_b (p := tk) hen hte ms
    refine ⟨_, w2, w3, ?_⟩
    unfold f_R_personLine
    rw [rlm5, ob, hr, hn, if_pos (show iN (cn m 5) = 10 from congrArg iN (show cn m 5 = 10 by omega)), w1, ob]
theorem tie_all (H : TLS K rd xx t en tx i tk (-1)) (hen : en ≤ 400) (hN : 500 < N) (I : Inv m) (R : TRel K t m) : LNS rd xx t en tx K i (-1) m (f_TR_readTie N rd K) (f_R_tieLine N (iN tk)) := by
  have hb := I.b6
  have hn := I.n6
  unfold f_TR_readTie
  rw [H.g6, ob, H.S.i0, ob, R.v6, hn]
  by_cases h : cn m 6 < 24
  · rw [if_pos (show iN (cn m 6) < 24 from iN_ylt (n := 24) h (by decide))]
    refine LNS.step (Rq.refl K) (tie_ln H hen hN I R (fun _ => h) (iN tk)) fun r hT ms hr => ⟨r, Lx.refl r, ms, ?_⟩
    unfold f_R_tieLine
    rw [rlm6, ob, hr, hn, if_neg (show ¬ iN (cn m 6) = 24 from iN_ne (b := 24) (by omega) (by omega) (by decide))]
  · rw [if_neg (show ¬ iN (cn m 6) < 24 from fun y => absurd (iN_yle (n := 24) (k := cn m 6) (by omega) (by omega)) (Int32.not_le.mpr y)), H.A.fc, ob]
    obtain ⟨L, l1, l2, l3⟩ := takenIsWrong_8 H.A H.C
    rw [if_pos rfl] at l3
    have H2 := H.rq l2 l3
    have hte := H.te
    rw [l1, ob]
    refine LNS.step l2 (tie_ln H2 hen hN I (H.rel l2 R) (fun y => absurd y (iN_m1 (by omega))) (iN tk)) fun r hT ms hr => ?_
    obtain ⟨w1, w2, w3⟩ := wrong_b (p := tk) hen hte ms
    refine ⟨_, w2, w3, ?_⟩
    unfold f_R_tieLine
    rw [rlm6, ob, hr, hn, if_pos (show iN (cn m 6) = 24 from congrArg iN (show cn m 6 = 24 by omega)), w1, ob]
theorem price_ln (H : TLS K rd xx t en tx i tk f) (hen : en ≤ 400) (hN : 500 < N) (I : Inv m) (R : TRel K t m) (hj : j < 3) : LNS rd xx t en tx K i f m ((f_TxR_readNumber_8 N rd 0 99 K).bind fun z4 => (gR z4.2 8 rd 6).bind fun v5 => (gR z4.2 7 v5 0).bind fun v6 => (gR z4.2 0 v6 0).bind fun v7 => (pI z4.2 4 v7 j z4.1).bind fun M8 => some M8) (f_R_tells N (iN (13 + j))) := by
  obtain ⟨v1, L1, i1, t1, f1, c1, q1, H1, d1, e1, m1⟩ := num_b (lo := 0) (hc := 99) (hm := 99) H hen hN (by decide) fun _ => rfl
  have R1 := H.rel q1 R
  have c1 : f_TxR_readNumber_8 N rd 0 99 K = some (v1, L1) := c1
  have cls : ((f_TxR_readNumber_8 N rd 0 99 K).bind fun z4 => (gR z4.2 8 rd 6).bind fun v5 => (gR z4.2 7 v5 0).bind fun v6 => (gR z4.2 0 v6 0).bind fun v7 => (pI z4.2 4 v7 j z4.1).bind fun M8 => some M8) = some (m_setI L1 (t + 2) j v1) := by
    rw [c1, ob]
    dsimp only
    rw [H1.g6, ob, H1.S.g_lands, ob, H1.S.g_manners, ob, H1.S.p2, ob]
  by_cases hf : f1 = -1
  · obtain ⟨-, a, rfl, a1, a2, a3⟩ := e1 hf
    have hv : nb (iN a) 99 := le_nb (b := 99) a2 (by decide) a3
    refine ⟨_, i1, t1, f1, _, cls, H1.set (o := 2) (by decide) j (iN a), q1.frt.set (o := 2) (by decide) j (iN a), fun _ => price_T R1 I hj hv, fun r hT ms hr => ?_⟩
    obtain ⟨w, q, o1, o2, o3, o4⟩ := m1 r hT ms
    have o1 : f_R_figures N 0 99 r = some (w, q) := o1
    refine ⟨setM q (up1 m (13 + j) (iN a)), ?_, o2.lym fun k hk => by rw [hr, up1_ne (by omega)], o3.set _, fun _ => setM_m _ _⟩
    unfold f_R_tells
    rw [o1, ob, if_pos (o3.1 hf).1, o4 hf, rw1 (by omega), ob, o2.1, hr]
  · refine ⟨_, i1, t1, f1, m, cls, H1.set (o := 2) (by decide) j v1, q1.frt.set (o := 2) (by decide) j v1, fun h => absurd h hf, fun r hT ms hr => ?_⟩
    obtain ⟨w, q, o1, o2, o3, o4⟩ := m1 r hT ms
    have o1 : f_R_figures N 0 99 r = some (w, q) := o1
    refine ⟨q, ?_, o2.ly, o3, fun h => absurd h hf⟩
    unfold f_R_tells
    rw [o1, ob, if_neg (by rw [(o3.2 hf).1]; exact hf)]
end Vn
