section Vo
variable {N en i j k p t w b rd xx tk lo n o : Nat} {tx : Nat → Int32} {K L M : Mem} {f v u g hc hm a c d : Int32} {r q : Rho} {m m2 z : Nat → Int32}
theorem t77_dead (H : TLS K rd xx t en tx i tk f) (hf : f ≠ -1) (x2 : Int32) : ∃ L, f_TxR_readLines_8_77 N rd 14 x2 K = some (0, L) ∧ TLS L rd xx t en tx i tk f ∧ FRt rd t K L := by
  have e85 : ∀ {L : Mem}, TLS L rd xx t en tx i tk f → f_TxR_readLines_8_85 N rd 14 L = some (0, L) := fun {L} HL => by
    unfold f_TxR_readLines_8_85
    rw [HL.A.fi, ob, HL.C.1, if_neg hf]
  unfold f_TxR_readLines_8_77
  by_cases h : x2 = 0
  · rw [if_pos h]
    exact ⟨K, e85 H, H, FRt.refl K⟩
  · rw [if_neg h, H.A.fc, ob]
    obtain ⟨L, l1, l2, l3⟩ := nextIsWrong_8 H.A H.C
    rw [if_neg hf] at l3
    rw [l1, ob]
    exact ⟨L, e85 (H.rq l2 l3), H.rq l2 l3, l2.frt⟩
theorem tlines_dead (H : TLS K rd xx t en tx i tk f) (hf : f ≠ -1) (fuel : Nat) (x2 x3 : Int32) : ∃ L, f_TxR_readLines_8_23 N rd 14 (fuel + 1) x2 x3 K = some (0, L) ∧ TLS L rd xx t en tx i tk f ∧ FRt rd t K L := by
  obtain ⟨L, h⟩ := t77_dead (N := N) H hf x2
  refine ⟨L, ?_, h.2⟩
  rw [f_TxR_readLines_8_23, H.A.fi, ob, H.C.1, if_neg hf, h.1]
  by_cases h1 : (14 : Int32) ≤ x3
  · rw [if_pos h1]
  · rw [if_neg h1]
    by_cases h2 : x2 = 0
    · rw [if_pos h2]
    · rw [if_neg h2]
theorem tlines_none (H : TLS K rd xx t en tx i tk (-1)) (fuel : Nat) (x3 : Int32) : f_TxR_readLines_8_23 N rd 14 (fuel + 1) 0 x3 K = some (1, K) := by
  have e : f_TxR_readLines_8_77 N rd 14 0 K = some (1, K) := by
    unfold f_TxR_readLines_8_77 f_TxR_readLines_8_85
    rw [if_pos rfl, H.A.fi, ob, H.C.1, if_pos rfl]
  rw [f_TxR_readLines_8_23, e]
  by_cases h1 : (14 : Int32) ≤ x3
  · rw [if_pos h1]
  · rw [if_neg h1, if_pos rfl]
theorem tlines_loop (hen : en ≤ 400) (hN : 500 < N) : ∀ (c : Nat) (K : Mem) (i tk n : Nat) (m : Nat → Int32) (fuel : Nat), n + c = 14 → TLS K rd xx t en tx i tk (-1) → Inv m → TRel K t m → c + 2 < fuel →
    ∃ L i' tk' f' m', f_TxR_readLines_8_23 N rd 14 fuel 1 (iN n) K = some (b01 (decide (f' = -1)), L) ∧ TLS L rd xx t en tx i' tk' f' ∧ FRt rd t K L ∧ (f' = -1 → Inv m' ∧ TRel L t m') ∧ ∀ r mf, TXm r tx en → ML r tx en i → r.2 1 = m → c + 2 < mf → ∃ v q, f_R_read_23 N 0 mf 1 (iN n) r = some (v, q) ∧ Ly r q ∧ q.1 12 = f' ∧ (f' = -1 → q.2 1 = m') := by
  intro c
  induction c with
  | zero =>
    intro K i tk n m fuel hn H I R hf
    obtain ⟨fu, rfl⟩ : ∃ fu, fuel = fu + 1 := ⟨fuel - 1, by omega⟩
    obtain rfl : n = 14 := by omega
    have hi := H.ie
    have hne : iN i ≠ -1 := iN_m1 (by omega)
    obtain ⟨L, l1, l2, l3⟩ := nextIsWrong_8 H.A H.C
    rw [if_pos rfl] at l3
    have H2 := H.rq l2 l3
    refine ⟨L, i, tk, iN i, m, ?_, H2, l2.frt, fun z => absurd z hne, fun r mf hT ml hr hmf => ?_⟩
    · rw [f_TxR_readLines_8_23, if_pos (show (14 : Int32) ≤ iN 14 by decide), decide_eq_false hne]
      unfold f_TxR_readLines_8_77 f_TxR_readLines_8_85
      rw [if_neg i1n, H.A.fc, ob, l1, ob, H2.A.fi, ob, H2.C.1, if_neg hne]
      rfl
    · obtain ⟨mg, rfl⟩ : ∃ mg, mf = mg + 1 := ⟨mf - 1, by omega⟩
      obtain ⟨mh, rfl⟩ : ∃ mh, mg = mh + 1 := ⟨mg - 1, by omega⟩
      obtain ⟨q0, m1, m2, m3, m4⟩ := skip_ml hT hen hN ml
      obtain ⟨q, p1, p2, p3⟩ := skip_any (r := r_set q0 12 (iN i)) ((hT.lx m2).lx (Lx.s12 _ _)) hen hN (show i ≤ 1000 by omega) m4
      have p3 : q.1 12 = iN i := p3.trans (set_s _ _ _)
      have lx := (m2.trans (Lx.s12 q0 (iN i))).trans p2
      refine ⟨iN 14 + 1, q, ?_, lx.ly, p3, fun z => absurd z hne⟩
      rw [f_R_read_23, if_neg i1n, if_pos ml.1, m1, ob, if_pos rfl]
      unfold f_R_read_51
      rw [if_pos (show iN 14 = 14 from rfl), m4, wrong_md m3, ob]
      unfold f_R_read_80 f_R_read_106
      rw [p1, ob, if_neg (by rw [p3]; exact hne), f_R_read_23, if_pos rfl]
  | succ c ih =>
    intro K i tk n m fuel hn H I R hf
    obtain ⟨fu, rfl⟩ : ∃ fu, fuel = fu + 1 := ⟨fuel - 1, by omega⟩
    obtain ⟨fu, rfl⟩ : ∃ fu2, fu = fu2 + 1 := ⟨fu - 1, by omega⟩
    have hi := H.ie
    obtain ⟨L1, i1, t1, f1, m1, c1, H1, F1, d1, md1⟩ := line_t (N := N) H hen hN I R
    have hi1e := H1.ie
    have n14 : ¬ (14 : Int32) ≤ iN n := iN_nle (n := 14) (by omega) (by decide)
    have e0 : f_TxR_readLines_8_23 N rd 14 (fu + 1 + 1) 1 (iN n) K = if iN en ≤ iN i1 then f_TxR_readLines_8_60 N rd 14 (f_TxR_readLines_8_23 N rd 14 (fu + 1)) (iN n) 0 L1 else f_TxR_readLines_8_60 N rd 14 (f_TxR_readLines_8_23 N rd 14 (fu + 1)) (iN n) 1 L1 := by
      rw [f_TxR_readLines_8_23, if_neg n14, if_neg i1n, H.A.fi, ob, H.C.1, if_pos rfl, H.A.fc, ob, c1, ob, H1.A.fi, ob, H1.A.fi, ob, H1.C.2.1, H1.C.2.2.2.1]
    -- the model, up to the line's end
    have mdl : ∀ r mg, TXm r tx en → ML r tx en i → r.2 1 = m → ∃ q, f_R_read_23 N 0 (mg + 1) 1 (iN n) r = f_R_read_80 N 0 (f_R_read_23 N 0 mg) 1 (iN n) q ∧ Ly r q ∧ MS q tx en i1 f1 6 ∧ (f1 = -1 → q.2 1 = m1) := fun r mg hT ml hr => by
      obtain ⟨q0, p1, p2, p3, p4⟩ := skip_ml hT hen hN ml
      obtain ⟨q, o1, o2, o3, o4⟩ := md1 q0 (hT.lx p2) (MS.l (ML.at0 hi ml.sk p3 p4)) (by rw [p2.1]; exact hr)
      refine ⟨q, ?_, p2.ly.trans o2, o3, o4⟩
      rw [f_R_read_23, if_neg i1n, if_pos ml.1, p1, ob, if_pos rfl]
      unfold f_R_read_51
      rw [if_neg (show ¬ iN n = 14 from iN_ne (b := 14) (by omega) (by omega) (by decide)), if_pos rfl, o1, ob]
    rw [e0]
    by_cases hend : en ≤ i1
    · rw [if_pos (iN_yle hend (by omega))]
      unfold f_TxR_readLines_8_60
      rw [if_pos rfl, iN_s]
      by_cases hf1 : f1 = -1
      · subst hf1
        obtain ⟨d2, d3⟩ := d1 rfl
        refine ⟨L1, i1, t1, -1, m1, by rw [tlines_none H1]; rfl, H1, F1, fun _ => ⟨d2, d3⟩, fun r mf hT ml hr hmf => ?_⟩
        obtain ⟨mg, rfl⟩ : ∃ mg, mf = mg + 1 := ⟨mf - 1, by omega⟩
        obtain ⟨mh, rfl⟩ : ∃ mh, mg = mh + 1 := ⟨mg - 1, by omega⟩
        obtain ⟨q, p1, p2, p3, p4⟩ := mdl r (mh + 1) hT ml hr
        have mq := p3.1 rfl
        obtain ⟨q2, o1, o2, o3, o4⟩ := skip_ml (hT.ly p2) hen hN mq
        have lw := p2.trans o2.ly
        refine ⟨iN (n + 1), q2, ?_, lw, o3, fun _ => by rw [o2.1]; exact p4 rfl⟩
        rw [p1]
        unfold f_R_read_80 f_R_read_106
        rw [o1, ob, if_pos o3, o4, (hT.ly lw).1, if_pos (show iN i1 = iN en from congrArg iN (by omega)), f_R_read_23, if_pos rfl, iN_s]
      · obtain ⟨L, l1, l2, l3⟩ := tlines_dead (N := N) H1 hf1 fu 0 (iN (n + 1))
        refine ⟨L, i1, t1, f1, m, by rw [l1, decide_eq_false hf1]; rfl, l2, F1.trans l3, fun z => absurd z hf1, fun r mf hT ml hr hmf => ?_⟩
        obtain ⟨mg, rfl⟩ : ∃ mg, mf = mg + 1 := ⟨mf - 1, by omega⟩
        obtain ⟨mh, rfl⟩ : ∃ mh, mg = mh + 1 := ⟨mg - 1, by omega⟩
        obtain ⟨q, p1, p2, p3, p4⟩ := mdl r (mh + 1) hT ml hr
        obtain ⟨b1, j, b2, b3⟩ := p3.2 hf1
        obtain ⟨q2, o1, o2, o3⟩ := skip_any (hT.ly p2) hen hN (show j ≤ 1000 by omega) b3
        refine ⟨iN n + 1, q2, ?_, p2.trans o2.ly, o3.trans b1, fun z => absurd z hf1⟩
        rw [p1]
        unfold f_R_read_80 f_R_read_106
        rw [o1, ob, if_neg (by rw [o3, b1]; exact hf1), f_R_read_23, if_pos rfl]
    · rw [if_neg (iN_nle (by omega) (by omega))]
      unfold f_TxR_readLines_8_60
      rw [if_neg i1n, H1.A.fc, ob]
      obtain ⟨L2, k1, k2, k3⟩ := readSign_8 (N := N) H1.A H1.x hen hN H1.C (c := 59) (by decide) (by decide)
      rw [k1, ob, iN_s]
      rcases k3 with ⟨hf1, k4, k5, k6⟩ | ⟨k4, k5⟩
      · subst hf1
        obtain ⟨d2, d3⟩ := d1 rfl
        have H2 := H1.rq k2 k6
        have hsb := sk_b (tx := tx) (show i1 + 1 ≤ en by omega)
        obtain ⟨L, i', t', f', m', g1, g2, g3, g4, g5⟩ := ih L2 _ _ (n + 1) m1 (fu + 1) (by omega) H2 d2 (H1.rel k2 d3) (by omega)
        refine ⟨L, i', t', f', m', g1, g2, (F1.trans k2.frt).trans g3, g4, fun r mf hT ml hr hmf => ?_⟩
        obtain ⟨mg, rfl⟩ : ∃ mg, mf = mg + 1 := ⟨mf - 1, by omega⟩
        obtain ⟨q, p1, p2, p3, p4⟩ := mdl r mg hT ml hr
        have mq := p3.1 rfl
        obtain ⟨q2, o1, o2, o3, o4⟩ := skip_ml (hT.ly p2) hen hN mq
        obtain ⟨q3, u1, u2, u3, u4⟩ := sign_y (N := N) (c := 59) ((hT.ly p2).lx o2) hen hN (ML.at0 hi1e mq.sk o3 o4) k4 k5
        have lx : Lx q (r_set q3 11 (iN (i1 + 1))) := (o2.trans u2).trans (Lx.s11 _ _)
        have lw := p2.trans lx.ly
        obtain ⟨v, q', w1, w2, w3, w4⟩ := g5 (r_set q3 11 (iN (i1 + 1))) mg (hT.ly lw) (ML.at (by omega) u3 (set_s _ _ _)) (by rw [lx.1]; exact p4 rfl) (by omega)
        refine ⟨v, q', ?_, lw.trans w2, w3, w4⟩
        rw [p1]
        unfold f_R_read_80
        have hT2 := (hT.ly p2).lx o2
        rw [o1, ob, if_pos o3, o4, hT2.1, if_neg (iN_ne (show i1 ≠ en by omega) (by omega) (by omega)), u1, ob, if_neg (show ¬ ((1 : Int32), q3).1 = 0 from i1n)]
        dsimp only
        rw [u4, iN_s, iN_s]
        exact w1
      · have H2 := H1.rq k2 k5
        by_cases hf1 : f1 = -1
        · subst hf1
          rw [if_pos rfl] at H2
          have hne : iN i1 ≠ -1 := iN_m1 (by omega)
          obtain ⟨L, l1, l2, l3⟩ := tlines_dead (N := N) H2 hne fu 1 (iN (n + 1))
          refine ⟨L, i1, t1, iN i1, m, by rw [l1, decide_eq_false hne]; rfl, l2, (F1.trans k2.frt).trans l3, fun z => absurd z hne, fun r mf hT ml hr hmf => ?_⟩
          obtain ⟨mg, rfl⟩ : ∃ mg, mf = mg + 1 := ⟨mf - 1, by omega⟩
          obtain ⟨mh, rfl⟩ : ∃ mh, mg = mh + 1 := ⟨mg - 1, by omega⟩
          obtain ⟨q, p1, p2, p3, p4⟩ := mdl r (mh + 1) hT ml hr
          have mq := p3.1 rfl
          obtain ⟨q2, o1, o2, o3, o4⟩ := skip_ml (hT.ly p2) hen hN mq
          obtain ⟨q3, u1, u2, u3, u4⟩ := sign_n (N := N) (c := 59) ((hT.ly p2).lx o2) hen hN (ML.at0 hi1e mq.sk o3 o4) (fun y => k4 ⟨rfl, y⟩)
          have lx : Lx q (r_set q3 12 (iN i1)) := (o2.trans u2).trans (Lx.s12 _ _)
          refine ⟨iN n + 1, r_set q3 12 (iN i1), ?_, p2.trans lx.ly, set_s _ _ _, fun z => absurd z hne⟩
          have hT2 := (hT.ly p2).lx o2
          rw [p1]
          unfold f_R_read_80
          rw [o1, ob, if_pos o3, o4, hT2.1, if_neg (iN_ne (show i1 ≠ en by omega) (by omega) (by omega)), u1, ob, if_pos rfl]
          dsimp only
          rw [u4, wrong_md u3.1, ob, f_R_read_23, if_neg i1n, if_neg (show ¬ (r_set q3 12 (iN i1)).1 12 = -1 by rw [set_s]; exact hne)]
        · rw [if_neg hf1] at H2
          obtain ⟨L, l1, l2, l3⟩ := tlines_dead (N := N) H2 hf1 fu 1 (iN (n + 1))
          refine ⟨L, i1, t1, f1, m, by rw [l1, decide_eq_false hf1]; rfl, l2, (F1.trans k2.frt).trans l3, fun z => absurd z hf1, fun r mf hT ml hr hmf => ?_⟩
          obtain ⟨mg, rfl⟩ : ∃ mg, mf = mg + 1 := ⟨mf - 1, by omega⟩
          obtain ⟨mh, rfl⟩ : ∃ mh, mg = mh + 1 := ⟨mg - 1, by omega⟩
          obtain ⟨q, p1, p2, p3, p4⟩ := mdl r (mh + 1) hT ml hr
          obtain ⟨b1, j, b2, b3⟩ := p3.2 hf1
          obtain ⟨q2, o1, o2, o3⟩ := skip_any (hT.ly p2) hen hN (show j ≤ 1000 by omega) b3
          refine ⟨iN n + 1, q2, ?_, p2.trans o2.ly, o3.trans b1, fun z => absurd z hf1⟩
          rw [p1]
          unfold f_R_read_80 f_R_read_106
          rw [o1, ob, if_neg (by rw [o3, b1]; exact hf1), f_R_read_23, if_pos rfl]
end Vo
