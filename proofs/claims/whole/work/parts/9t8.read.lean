section Rd
variable {N en i j k p t w b rd xx a n s s' s0 : Nat} {tx : Nat → Int32} {K L M : Mem} {f fl v u g : Int32} {r q : Rho} {ed : Nat → Nat} {F : Nat → Int32}
theorem lwR_snoc (g cv : Nat → Int32) : ∀ (n k : Nat), (∀ j, k ≤ j → j < k + n → g j ≠ -1) → lwR g cv (n + 1) k = if lwR g cv n k = -1 then (if cv (k + n) = 0 then -1 else g (k + n)) else lwR g cv n k := by
  intro n
  induction n with
  | zero => intro k _; rfl
  | succ n ih =>
    intro k hg
    have h := ih (k + 1) fun j h1 h2 => hg j (by omega) (by omega)
    show (if cv k = 0 then lwR g cv (n + 1) (k + 1) else g k) = if (if cv k = 0 then lwR g cv n (k + 1) else g k) = -1 then (if cv (k + (n + 1)) = 0 then -1 else g (k + (n + 1))) else (if cv k = 0 then lwR g cv n (k + 1) else g k)
    rw [h, show k + 1 + n = k + (n + 1) by omega]
    by_cases hc : cv k = 0
    · rw [if_pos hc, if_pos hc]
    · rw [if_neg hc, if_neg hc, if_neg (hg k (Nat.le_refl _) (by omega))]
theorem lwR_congr {g g2 cv cv2 : Nat → Int32} : ∀ (n k : Nat), (∀ j, k ≤ j → j < k + n → g j = g2 j ∧ cv j = cv2 j) → lwR g cv n k = lwR g2 cv2 n k := by
  intro n
  induction n with
  | zero => intro k _; rfl
  | succ n ih =>
    intro k h
    show (if cv k = 0 then lwR g cv n (k + 1) else g k) = (if cv2 k = 0 then lwR g2 cv2 n (k + 1) else g2 k)
    obtain ⟨h1, h2⟩ := h k (Nat.le_refl _) (by omega)
    rw [h1, h2, ih (k + 1) fun j h1 h2 => h j (by omega) (by omega)]
theorem skip_any (hT : TXm r tx en) (hen : en ≤ 400) (hN : 500 < N) (hj : j ≤ 1000) (h11 : r.1 11 = iN j) : ∃ q, f_R_skip N r = some q ∧ Lx r q ∧ q.1 12 = r.1 12 := by
  by_cases h : j ≤ en
  · obtain ⟨q, a1, a2, a3, -⟩ := skip_md hT hen hN h h11
    exact ⟨q, a1, a2, a3⟩
  · obtain ⟨fv, hfv⟩ : ∃ fv, N = fv + 1 := ⟨N - 1, by omega⟩
    refine ⟨r, ?_, Lx.refl r, rfl⟩
    have : ∀ g, g = fv + 1 → f_R_skip_0 N g r = some r := fun g hg => by
      rw [hg, f_R_skip_0, hT.1, h11, if_pos (iN_yle (by omega) (by omega))]
    exact this N hfv
theorem l77_dead (H : LRS K rd xx a en tx i t fl n s) (hf : fl ≠ -1) (x2 : Int32) : ∃ L, f_TxR_readLines_2_77 N rd 12 x2 K = some (0, L) ∧ LRS L rd xx a en tx i t fl n s ∧ FR rd a K L := by
  have e85 : ∀ {L : Mem}, LRS L rd xx a en tx i t fl n s → f_TxR_readLines_2_85 N rd 12 L = some (0, L) := fun {L} HL => by
    unfold f_TxR_readLines_2_85
    rw [HL.A.fi, ob, HL.C.1, if_neg hf]
  unfold f_TxR_readLines_2_77
  by_cases h : x2 = 0
  · rw [if_pos h]
    exact ⟨K, e85 H, H, FR.refl K⟩
  · rw [if_neg h, H.A.fc, ob]
    obtain ⟨L, l1, l2, l3⟩ := nextIsWrong_2 H.A H.C
    rw [if_neg hf] at l3
    rw [l1, ob]
    exact ⟨L, e85 (H.rq l2 l3), H.rq l2 l3, l2.fr⟩
theorem lines_dead (H : LRS K rd xx a en tx i t fl n s) (hf : fl ≠ -1) (fuel : Nat) (x2 x3 : Int32) : ∃ L, f_TxR_readLines_2_23 N rd 12 (fuel + 1) x2 x3 K = some (0, L) ∧ LRS L rd xx a en tx i t fl n s ∧ FR rd a K L := by
  obtain ⟨L, h⟩ := l77_dead (N := N) H hf x2
  refine ⟨L, ?_, h.2⟩
  rw [f_TxR_readLines_2_23, H.A.fi, ob, H.C.1, if_neg hf, h.1]
  by_cases h1 : (12 : Int32) ≤ x3
  · rw [if_pos h1]
  · rw [if_neg h1]
    by_cases h2 : x2 = 0
    · rw [if_pos h2]
    · rw [if_neg h2]
theorem lines_none (H : LRS K rd xx a en tx i t (-1) n s) (fuel : Nat) (x3 : Int32) : f_TxR_readLines_2_23 N rd 12 (fuel + 1) 0 x3 K = some (1, K) := by
  have e : f_TxR_readLines_2_77 N rd 12 0 K = some (1, K) := by
    unfold f_TxR_readLines_2_77 f_TxR_readLines_2_85
    rw [if_pos rfl, H.A.fi, ob, H.C.1, if_pos rfl]
  rw [f_TxR_readLines_2_23, e]
  by_cases h1 : (12 : Int32) ≤ x3
  · rw [if_pos h1]
  · rw [if_neg h1, if_pos rfl]
/-- what is said so far is what the lines so far say -/
def SY (K : Mem) (a n : Nat) (ed : Nat → Nat) (F : Nat → Int32) (v : Int32) : Prop := ∀ cv : Nat → Int32, (∀ k, k < n → CV K a ed F k (cv k)) → v = lwR (m_iv K (a + 1)) cv n 0
theorem lines_loop (hen : en ≤ 400) (hN : 500 < N) : ∀ (c : Nat) (K : Mem) (i t n s : Nat) (ed : Nat → Nat) (fuel : Nat), n + c = 12 → LRS K rd xx a en tx i t (-1) n s → s ≤ i → LL K a n s ed → c + 2 < fuel →
    ∃ L i' t' f' n' s' ed', f_TxR_readLines_2_23 N rd 12 fuel 1 (iN n) K = some (b01 (decide (f' = -1)), L) ∧ LRS L rd xx a en tx i' t' f' n' s' ∧ FR rd a K L ∧ (f' = -1 → LL L a n' s' ed') ∧ ∀ r mf, TXm r tx en → ML r tx en i → Bz r → r.1 13 = 0 → c + 2 < mf → ∃ v q, f_R_read_23 N 1 mf 1 (iN n) r = some (v, q) ∧ Lw r q ∧ q.1 12 = f' ∧ (f' = -1 → v = iN n' ∧ 0 < n') ∧ (SY K a n ed (fcR r) (r.1 17) → f' = -1 → SY L a n' ed' (fcR r) (q.1 17)) := by
  intro c
  induction c with
  | zero =>
    intro K i t n s ed fuel hn H hs hL hf
    obtain ⟨fu, rfl⟩ : ∃ fu, fuel = fu + 1 := ⟨fuel - 1, by omega⟩
    obtain rfl : n = 12 := by omega
    have hi := H.ie
    have hne : iN i ≠ -1 := iN_m1 (by omega)
    obtain ⟨L, l1, l2, l3⟩ := nextIsWrong_2 H.A H.C
    rw [if_pos rfl] at l3
    have H2 := H.rq l2 l3
    refine ⟨L, i, t, iN i, 12, s, ed, ?_, H2, l2.fr, fun z => absurd z hne, fun r mf hT m z d hmf => ?_⟩
    · rw [f_TxR_readLines_2_23, if_pos (show (12 : Int32) ≤ iN 12 by decide), decide_eq_false hne]
      unfold f_TxR_readLines_2_77 f_TxR_readLines_2_85
      rw [if_neg i1n, H.A.fc, ob, l1, ob, H2.A.fi, ob, H2.C.1, if_neg hne]
      rfl
    · obtain ⟨mg, rfl⟩ : ∃ mg, mf = mg + 1 := ⟨mf - 1, by omega⟩
      obtain ⟨mh, rfl⟩ : ∃ mh, mg = mh + 1 := ⟨mg - 1, by omega⟩
      obtain ⟨q0, m1, m2, m3, m4⟩ := skip_ml hT hen hN m
      obtain ⟨q, p1, p2, p3⟩ := skip_any (r := r_set q0 12 (iN i)) ((hT.lx m2).lx (Lx.s12 _ _)) hen hN (show i ≤ 1000 by omega) m4
      have p3 : q.1 12 = iN i := p3.trans (set_s _ _ _)
      have lx := (m2.trans (Lx.s12 q0 (iN i))).trans p2
      refine ⟨iN 12 + 1, q, ?_, lx.tw, p3, fun z => absurd z hne, fun _ z => absurd z hne⟩
      rw [f_R_read_23, if_neg i1n, if_pos m.1, m1, ob, if_neg i1n]
      unfold f_R_read_51
      rw [if_pos (show iN 12 = 12 from rfl), m4, wrong_md m3, ob]
      unfold f_R_read_80 f_R_read_106
      rw [p1, ob, if_neg (by rw [p3]; exact hne), f_R_read_23, if_pos rfl]
  | succ c ih =>
    intro K i t n s ed fuel hn H hs hL hf
    obtain ⟨fu, rfl⟩ : ∃ fu, fuel = fu + 1 := ⟨fuel - 1, by omega⟩
    obtain ⟨fu, rfl⟩ : ∃ fu2, fu = fu2 + 1 := ⟨fu - 1, by omega⟩
    have hi := H.ie
    obtain ⟨L1, i1, t1, f1, s1, c1, H1, F1, hi1, d1, m1⟩ := line_sim (N := N) hen hN H hs (by omega) hL
    have hi1e := H1.ie
    have n12 : ¬ (12 : Int32) ≤ iN n := iN_nle (n := 12) (by omega) (by decide)
    have e0 : f_TxR_readLines_2_23 N rd 12 (fu + 1 + 1) 1 (iN n) K = if iN en ≤ iN i1 then f_TxR_readLines_2_60 N rd 12 (f_TxR_readLines_2_23 N rd 12 (fu + 1)) (iN n) 0 L1 else f_TxR_readLines_2_60 N rd 12 (f_TxR_readLines_2_23 N rd 12 (fu + 1)) (iN n) 1 L1 := by
      rw [f_TxR_readLines_2_23, if_neg n12, if_neg i1n, H.A.fi, ob, H.C.1, if_pos rfl, H.A.fc, ob, c1, ob, H1.A.fi, ob, H1.A.fi, ob, H1.C.2.1, H1.C.2.2.2.1]
    -- the model, up to the line's end
    have mdl : ∀ r mg, TXm r tx en → ML r tx en i → Bz r → r.1 13 = 0 → ∃ q, f_R_read_23 N 1 (mg + 1) 1 (iN n) r = f_R_read_80 N 1 (f_R_read_23 N 1 mg) 1 (iN n) q ∧ Lw r q ∧ MS q tx en i1 f1 0 ∧ (f1 = -1 → SY K a n ed (fcR r) (r.1 17) → SY L1 a (n + 1) (up1 ed n s1) (fcR r) (q.1 17)) := fun r mg hT m z d => by
      obtain ⟨q0, p1, p2, p3, p4⟩ := skip_ml hT hen hN m
      obtain ⟨q, o1, o2, o3, o4⟩ := m1 q0 (hT.lx p2) (ML.at0 hi m.sk p3 p4) (z.lx p2) ((p2.2 13 (by decide) (by decide)).trans d)
      refine ⟨q, ?_, p2.tw.trans o2, o3, fun hf1 hsy cv hcv => ?_⟩
      · rw [f_R_read_23, if_neg i1n, if_pos m.1, p1, ob, if_neg i1n]
        unfold f_R_read_51
        rw [if_neg (show ¬ iN n = 12 from iN_ne (b := 12) (by omega) (by omega) (by decide)), if_neg i1n, o1, ob]
      · obtain ⟨d2, d3, d4⟩ := d1 hf1
        have h17 : q0.1 17 = r.1 17 := p2.2 17 (by decide) (by decide)
        rw [fcR_lx p2, h17] at o4
        have e1 := o4 hf1 (cv n) (hcv n (by omega))
        -- the lines before
        have hcK : ∀ k, k < n → CV K a ed (fcR r) k (cv k) := fun k hk => by
          obtain ⟨v, cc⟩ := (hL.1 k hk).2.2.2 (fcR r)
          have := (d4 k hk).2 _ _ cc
          rw [← this.uq (hcv k (by omega))]
          exact cc
        have e2 := hsy cv hcK
        rw [e1, e2, lwR_snoc _ _ n 0 fun j h1 h2 => by
          obtain ⟨x, hx, ex⟩ := (d3.1 j (by omega)).2.2.1
          rw [ex]
          exact iN_m1 (by omega), Nat.zero_add]
        have e3 : lwR (m_iv K (a + 1)) cv n 0 = lwR (m_iv L1 (a + 1)) cv n 0 := lwR_congr n 0 fun j h1 h2 => ⟨((d4 j (by omega)).1).symm, rfl⟩
        rw [e3]
    rw [e0]
    by_cases hend : en ≤ i1
    · rw [if_pos (iN_yle hend (by omega))]
      unfold f_TxR_readLines_2_60
      rw [if_pos rfl, iN_s]
      by_cases hf1 : f1 = -1
      · subst hf1
        obtain ⟨d2, d3, d4⟩ := d1 rfl
        refine ⟨L1, i1, t1, -1, n + 1, s1, up1 ed n s1, by rw [lines_none H1]; rfl, H1, F1, fun _ => d3, fun r mf hT m z d hmf => ?_⟩
        obtain ⟨mg, rfl⟩ : ∃ mg, mf = mg + 1 := ⟨mf - 1, by omega⟩
        obtain ⟨mh, rfl⟩ : ∃ mh, mg = mh + 1 := ⟨mg - 1, by omega⟩
        obtain ⟨q, p1, p2, p3, p4⟩ := mdl r (mh + 1) hT m z d
        have mq := p3.1 rfl
        obtain ⟨q2, o1, o2, o3, o4⟩ := skip_ml (hT.lw p2) hen hN mq
        have lw := p2.trans o2.tw
        refine ⟨iN (n + 1), q2, ?_, lw, o3, fun _ => ⟨rfl, by omega⟩, fun hsy _ => ?_⟩
        · rw [p1]
          unfold f_R_read_80 f_R_read_106
          rw [o1, ob, if_pos o3, o4, (hT.lw lw).1, if_pos (show iN i1 = iN en from congrArg iN (by omega)), f_R_read_23, if_pos rfl, iN_s]
        · rw [o2.2 17 (by decide) (by decide)]
          exact p4 rfl hsy
      · obtain ⟨L, l1, l2, l3⟩ := lines_dead (N := N) H1 hf1 fu 0 (iN (n + 1))
        refine ⟨L, i1, t1, f1, n + 1, s1, ed, by rw [l1, decide_eq_false hf1]; rfl, l2, F1.trans l3, fun z => absurd z hf1, fun r mf hT m z d hmf => ?_⟩
        obtain ⟨mg, rfl⟩ : ∃ mg, mf = mg + 1 := ⟨mf - 1, by omega⟩
        obtain ⟨mh, rfl⟩ : ∃ mh, mg = mh + 1 := ⟨mg - 1, by omega⟩
        obtain ⟨q, p1, p2, p3, p4⟩ := mdl r (mh + 1) hT m z d
        obtain ⟨b1, j, b2, b3⟩ := p3.2 hf1
        obtain ⟨q2, o1, o2, o3⟩ := skip_any (hT.lw p2) hen hN (show j ≤ 1000 by omega) b3
        refine ⟨iN n + 1, q2, ?_, p2.trans o2.tw, o3.trans b1, fun z => absurd z hf1, fun _ z => absurd z hf1⟩
        rw [p1]
        unfold f_R_read_80 f_R_read_106
        rw [o1, ob, if_neg (by rw [o3, b1]; exact hf1), f_R_read_23, if_pos rfl]
    · rw [if_neg (iN_nle (by omega) (by omega))]
      unfold f_TxR_readLines_2_60
      rw [if_neg i1n, H1.A.fc, ob]
      obtain ⟨L2, k1, k2, k3⟩ := readSign_2 (N := N) H1.A H1.x hen hN H1.C (c := 59) (by decide) (by decide)
      rw [k1, ob, iN_s]
      rcases k3 with ⟨hf1, k4, k5, k6⟩ | ⟨k4, k5⟩
      · subst hf1
        obtain ⟨d2, d3, d4⟩ := d1 rfl
        have H2 := H1.rq k2 k6
        have hsb := sk_b (tx := tx) (show i1 + 1 ≤ en by omega)
        have S2 := H1.st k2
        obtain ⟨e1, e2⟩ := d3.st S2
        obtain ⟨L, i', t', f', n', s', ed', g1, g2, g3, g4, g5⟩ := ih L2 _ _ (n + 1) s1 (up1 ed n s1) (fu + 1) (by omega) H2 (by omega) ⟨e1, d3.2⟩ (by omega)
        refine ⟨L, i', t', f', n', s', ed', g1, g2, (F1.trans k2.fr).trans g3, g4, fun r mf hT m z d hmf => ?_⟩
        obtain ⟨mg, rfl⟩ : ∃ mg, mf = mg + 1 := ⟨mf - 1, by omega⟩
        obtain ⟨q, p1, p2, p3, p4⟩ := mdl r mg hT m z d
        have mq := p3.1 rfl
        obtain ⟨q2, o1, o2, o3, o4⟩ := skip_ml (hT.lw p2) hen hN mq
        obtain ⟨q3, u1, u2, u3, u4⟩ := sign_y (N := N) (c := 59) ((hT.lw p2).lx o2) hen hN (ML.at0 hi1e mq.sk o3 o4) k4 k5
        have lx : Lx q (r_set q3 11 (iN (i1 + 1))) := (o2.trans u2).trans (Lx.s11 _ _)
        have lw := p2.trans lx.tw
        obtain ⟨v, q', w1, w2, w3, w4, w5⟩ := g5 (r_set q3 11 (iN (i1 + 1))) mg (hT.lw lw) (ML.at (by omega) u3 (set_s _ _ _)) (z.lw lw) ((lw.2 13 (by decide) (by decide) (by decide)).trans d) (by omega)
        refine ⟨v, q', ?_, lw.trans w2, w3, w4, fun hsy hf' => ?_⟩
        · rw [p1]
          unfold f_R_read_80
          have hT2 := (hT.lw p2).lx o2
          rw [o1, ob, if_pos o3, o4, hT2.1, if_neg (iN_ne (show i1 ≠ en by omega) (by omega) (by omega)), u1, ob, if_neg (show ¬ ((1 : Int32), q3).1 = 0 from i1n)]
          dsimp only
          rw [u4, iN_s, iN_s]
          exact w1
        · rw [fcR_lw lw] at w5
          refine w5 (fun cv hcv => ?_) hf'
          have h17 : (r_set q3 11 (iN (i1 + 1))).1 17 = q.1 17 := lx.2 17 (by decide) (by decide)
          rw [h17, S2.2.2.2.1.1]
          refine p4 rfl hsy cv fun k hk => ?_
          obtain ⟨v, cc⟩ := (d3.1 k hk).2.2.2 (fcR r)
          have := e2 k hk _ _ cc
          rw [← this.uq (hcv k hk)]
          exact cc
      · have H2 := H1.rq k2 k5
        by_cases hf1 : f1 = -1
        · subst hf1
          rw [if_pos rfl] at H2
          have hne : iN i1 ≠ -1 := iN_m1 (by omega)
          obtain ⟨L, l1, l2, l3⟩ := lines_dead (N := N) H2 hne fu 1 (iN (n + 1))
          refine ⟨L, i1, t1, iN i1, n + 1, s1, ed, by rw [l1, decide_eq_false hne]; rfl, l2, (F1.trans k2.fr).trans l3, fun z => absurd z hne, fun r mf hT m z d hmf => ?_⟩
          obtain ⟨mg, rfl⟩ : ∃ mg, mf = mg + 1 := ⟨mf - 1, by omega⟩
          obtain ⟨mh, rfl⟩ : ∃ mh, mg = mh + 1 := ⟨mg - 1, by omega⟩
          obtain ⟨q, p1, p2, p3, p4⟩ := mdl r (mh + 1) hT m z d
          have mq := p3.1 rfl
          obtain ⟨q2, o1, o2, o3, o4⟩ := skip_ml (hT.lw p2) hen hN mq
          obtain ⟨q3, u1, u2, u3, u4⟩ := sign_n (N := N) (c := 59) ((hT.lw p2).lx o2) hen hN (ML.at0 hi1e mq.sk o3 o4) (fun y => k4 ⟨rfl, y⟩)
          have lx : Lx q (r_set q3 12 (iN i1)) := (o2.trans u2).trans (Lx.s12 _ _)
          refine ⟨iN n + 1, r_set q3 12 (iN i1), ?_, p2.trans lx.tw, set_s _ _ _, fun z => absurd z hne, fun _ z => absurd z hne⟩
          have hT2 := (hT.lw p2).lx o2
          rw [p1]
          unfold f_R_read_80
          rw [o1, ob, if_pos o3, o4, hT2.1, if_neg (iN_ne (show i1 ≠ en by omega) (by omega) (by omega)), u1, ob, if_pos rfl]
          dsimp only
          rw [u4, wrong_md u3.1, ob, f_R_read_23, if_neg i1n, if_neg (show ¬ (r_set q3 12 (iN i1)).1 12 = -1 by rw [set_s]; exact hne)]
        · rw [if_neg hf1] at H2
          obtain ⟨L, l1, l2, l3⟩ := lines_dead (N := N) H2 hf1 fu 1 (iN (n + 1))
          refine ⟨L, i1, t1, f1, n + 1, s1, ed, by rw [l1, decide_eq_false hf1]; rfl, l2, (F1.trans k2.fr).trans l3, fun z => absurd z hf1, fun r mf hT m z d hmf => ?_⟩
          obtain ⟨mg, rfl⟩ : ∃ mg, mf = mg + 1 := ⟨mf - 1, by omega⟩
          obtain ⟨mh, rfl⟩ : ∃ mh, mg = mh + 1 := ⟨mg - 1, by omega⟩
          obtain ⟨q, p1, p2, p3, p4⟩ := mdl r (mh + 1) hT m z d
          obtain ⟨b1, j, b2, b3⟩ := p3.2 hf1
          obtain ⟨q2, o1, o2, o3⟩ := skip_any (hT.lw p2) hen hN (show j ≤ 1000 by omega) b3
          refine ⟨iN n + 1, q2, ?_, p2.trans o2.tw, o3.trans b1, fun z => absurd z hf1, fun _ z => absurd z hf1⟩
          rw [p1]
          unfold f_R_read_80 f_R_read_106
          rw [o1, ob, if_neg (by rw [o3, b1]; exact hf1), f_R_read_23, if_pos rfl]
/-- a law's text, read by both -/
theorem law_read (hen : en ≤ 400) (hN : 500 < N) (A : RS_2 K rd xx) (h6 : m_rv K rd 6 = some a) (W : LawShape K a en) (ha : a + 6 ≤ rd ∨ rd < a) (hxx : xx < a ∨ a + 6 ≤ xx) (hx : m_iv K xx = tx) (g0 : m_iv K rd 0 = -1) (g2 : m_iv K rd 2 = iN en) (g4 : m_iv K rd 4 = 0) (g5 : m_iv K rd 5 = 0) (l0 : m_iv K a 0 = 0) (l5 : m_iv K a 5 = 0) :
    ∃ L i' t' f' n' s' ed', f_TxR_readLines_2 N rd 12 K = some (b01 (decide (f' = -1)), L) ∧ LRS L rd xx a en tx i' t' f' n' s' ∧ FR rd a K L ∧ (f' = -1 → LL L a n' s' ed') ∧ ∀ r, TXm r tx en → r.1 11 = 0 → r.1 12 = -1 → Bz r → r.1 13 = 0 → ∃ v q, f_R_read N 1 r = some (v, q) ∧ Lw r q ∧ q.1 12 = f' ∧ (f' = -1 → v = iN n') ∧ (r.1 17 = -1 → f' = -1 → SY L a n' ed' (fcR r) (q.1 17)) := by
  obtain ⟨L0, c1, c2, c3⟩ := goOn_2 (N := N) A hx hen hN g2 (i := 0) (b := 0) g4 g5 (Nat.zero_le _) (Nat.zero_le _) (Or.inl g0)
  rw [g0] at c3
  have HK : LRS L0 rd xx a en tx (skN tx en 0) 0 (-1) 0 0 := by
    refine ⟨⟨A.q c2, by rw [c2.1.2.2.1]; exact h6, ?_, ha, hxx, (c2.2 xx (fun e => A.2.2.2 e.symm)).trans hx⟩, c3, by rw [c2.2 a (by omega)]; exact l0, by rw [c2.2 a (by omega)]; exact l5, Nat.zero_le _, Nat.zero_le _⟩
    unfold LawShape at W ⊢
    rw [c2.1.2.1, c2.1.2.2.1]
    exact W
  have hsb := sk_b (tx := tx) (Nat.zero_le en)
  have LL0 : LL L0 a 0 0 (fun _ => 0) := ⟨fun k hk => absurd hk (Nat.not_lt_zero k), rfl⟩
  unfold f_TxR_readLines_2
  rw [A.fc, ob, c1, ob, HK.A.fi, ob, HK.A.fi, ob, HK.C.2.1, HK.C.2.2.2.1]
  by_cases hend : en ≤ skN tx en 0
  · obtain ⟨fv, hfv⟩ : ∃ fv, N = fv + 1 := ⟨N - 1, by omega⟩
    rw [if_pos (iN_yle hend (by omega))]
    unfold f_TxR_readLines_2_20
    have e1 : f_TxR_readLines_2_23 N rd 12 N 0 0 L0 = some (1, L0) := by
      have : ∀ g, g = fv + 1 → f_TxR_readLines_2_23 N rd 12 g 0 0 L0 = some (1, L0) := fun g hg => by rw [hg]; exact lines_none HK fv 0
      exact this N hfv
    refine ⟨L0, _, _, -1, 0, 0, fun _ => 0, e1, HK, c2.fr, fun _ => LL0, fun r hT r11 r12 z d => ?_⟩
    obtain ⟨q, m1, m2, m3, m4⟩ := skip_md hT hen hN (Nat.zero_le _) r11
    refine ⟨0, q, ?_, m2.tw, m3.trans r12, fun _ => rfl, fun r17 _ cv _ => ?_⟩
    · unfold f_R_read f_R_read_20
      rw [m1, ob, m4, (hT.lx m2).1, if_pos (iN_yle hend (by omega))]
      have : ∀ g, g = fv + 1 → f_R_read_23 N 1 g 0 0 q = some (0, q) := fun g hg => by rw [hg, f_R_read_23, if_pos rfl]
      exact this N hfv
    · rw [m2.2 17 (by decide) (by decide), r17]
      rfl
  · rw [if_neg (iN_nle (by omega) (by omega))]
    unfold f_TxR_readLines_2_20
    obtain ⟨L, i', t', f', n', s', ed', e1, e2, e3, e4, e5⟩ := lines_loop (N := N) hen hN 12 L0 _ _ 0 0 (fun _ => 0) N (Nat.zero_add _) HK (Nat.zero_le _) LL0 (by omega)
    refine ⟨L, i', t', f', n', s', ed', e1, e2, c2.fr.trans e3, e4, fun r hT r11 r12 z d => ?_⟩
    obtain ⟨q, m1, m2, m3, m4⟩ := skip_md hT hen hN (Nat.zero_le _) r11
    obtain ⟨v, q2, p1, p2, p3, p4, p5⟩ := e5 q N (hT.lx m2) (ML.at0 hsb.2 (sk_sk (Nat.zero_le _)) (m3.trans r12) m4) (z.lx m2) ((m2.2 13 (by decide) (by decide)).trans d) (by omega)
    refine ⟨v, q2, ?_, m2.tw.trans p2, p3, fun hf => (p4 hf).1, fun r17 hf => ?_⟩
    · unfold f_R_read f_R_read_20
      rw [m1, ob, m4, (hT.lx m2).1, if_neg (iN_nle (by omega) (by omega))]
      exact p1
    · rw [fcR_lx m2] at p5
      refine p5 (fun cv _ => ?_) hf
      rw [m2.2 17 (by decide) (by decide), r17]
      rfl
end Rd
