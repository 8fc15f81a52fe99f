section Pl
variable {N en i j k p t w b rd xx a n s s0 D : Nat} {tx : Nat → Int32} {K L M : Mem} {f fl v u : Int32} {r q : Rho} {dp : Nat → Int32 → Int32 → Mem → Option Mem} {a0 : Int32}
/-- the class, at no 'not' and no '(' -/
noncomputable def plC (N rd : Nat) (dp : Nat → Int32 → Int32 → Mem → Option Mem) (a0 : Int32) (K : Mem) : Option Mem :=
  (ck K 2 rd).bind fun _ => (f_TxR_takeWord_2 N rd 8 K).bind fun z3 => if z3.1 = 0 then ((ck z3.2 2 rd).bind fun _ => (f_TxR_takeWord_2 N rd 9 z3.2).bind fun z4 => if z4.1 = 0 then ((ck z4.2 2 rd).bind fun _ => (f_LR_readSum N rd z4.2).bind fun z5 => (ck z5 2 rd).bind fun _ => (f_TxR_takeSign_2 N rd 60 z5).bind fun z6 => if z6.1 = 0 then ((ck z6.2 2 rd).bind fun _ => (f_TxR_readSign_2 N rd 62 z6.2).bind fun z7 => f_LR_readAtom_96 N dp rd a0 z6.1 z7) else (f_LR_readAtom_96 N dp rd a0 z6.1 z6.2)) else ((gR z4.2 2 rd 6).bind fun v8 => (ck z4.2 1 v8).bind fun _ => (f_Law_addStep v8 8 0 z4.2).bind fun z9 => some z9)) else ((gR z3.2 2 rd 6).bind fun v10 => (ck z3.2 1 v10).bind fun _ => (f_Law_addStep v10 7 0 z3.2).bind fun z11 => some z11)
theorem tw_dead (H : LRS K rd xx a en tx i t fl n s) (hen : en ≤ 400) (hN : 500 < N) (hf : fl ≠ -1) (hw : wdB w = true) : f_TxR_takeWord_2 N rd w K = some (0, K) := by
  rcases takeWord_2 (N := N) H.A H.x hen hN H.C hw with ⟨g1, -⟩ | ⟨-, g2⟩
  · exact absurd g1 hf
  · exact g2
theorem ts_dead (H : LRS K rd xx a en tx i t fl n s) (hen : en ≤ 400) (hN : 500 < N) (hf : fl ≠ -1) {c : Int32} (h1 : isL c = false) (h2 : isD c = false) : f_TxR_takeSign_2 N rd c K = some (0, K) := by
  rcases takeSign_2 (N := N) H.A H.x hen hN H.C h1 h2 with ⟨g1, -⟩ | ⟨-, g2⟩
  · exact absurd g1 hf
  · exact g2
theorem rs_dead (H : LRS K rd xx a en tx i t fl n s) (hen : en ≤ 400) (hN : 500 < N) (hf : fl ≠ -1) {c : Int32} (h1 : isL c = false) (h2 : isD c = false) : ∃ L, f_TxR_readSign_2 N rd c K = some L ∧ LRS L rd xx a en tx i t fl n s ∧ St rd a K L s s := by
  obtain ⟨L, l1, l2, l3⟩ := readSign_2 (N := N) H.A H.x hen hN H.C h1 h2
  rcases l3 with ⟨g1, -⟩ | ⟨-, g2⟩
  · exact absurd g1 hf
  · rw [if_neg hf] at g2
    exact ⟨L, l1, H.rq l2 g2, H.st l2⟩
/-- the second sum, where something is wrong -/
theorem a96_dead (H : LRS K rd xx a en tx i t fl n s) (hen : en ≤ 400) (hN : 500 < N) (hf : fl ≠ -1) (y : Int32) : ∃ L s', f_LR_readAtom_96 N dp rd a0 y K = some L ∧ LRS L rd xx a en tx i t fl n s' ∧ St rd a K L s s' := by
  obtain ⟨L1, s1, c1, H1, S1⟩ := sum_dead (N := N) (rd := rd) (xx := xx) (a := a) (tx := tx) hen hN K i t fl n s hf H
  obtain ⟨L2, s2, c2, H2, S2, -⟩ := addStep_cl H1 hen 12 0
  obtain ⟨L3, s3, c3, H3, S3, -⟩ := addStep_cl H1 hen 11 0
  unfold f_LR_readAtom_96 f_LR_readAtom_115
  rw [H.A.fc, ob, c1, ob, H1.g6, ob]
  by_cases hy : y = 0
  · exact ⟨L2, s2, by rw [if_pos hy, H1.W.c0, ob, c2, ob], H2, S1.trans S2⟩
  · exact ⟨L3, s3, by rw [if_neg hy, H1.W.c0, ob, c3, ob], H3, S1.trans S3⟩
theorem pl_dead (hen : en ≤ 400) (hN : 500 < N) : DeadL rd xx a en tx (plC N rd dp a0) := by
  intro K i t fl n s hf H
  obtain ⟨L1, s1, c1, H1, S1⟩ := sum_dead (N := N) (rd := rd) (xx := xx) (a := a) (tx := tx) hen hN K i t fl n s hf H
  obtain ⟨L2, c2, H2, S2⟩ := rs_dead (N := N) H1 hen hN hf (c := 62) (by decide) (by decide)
  obtain ⟨L3, s3, c3, H3, S3⟩ := a96_dead (N := N) (dp := dp) (a0 := a0) H2 hen hN hf 0
  refine ⟨L3, s3, ?_, H3, (S1.trans S2).trans S3⟩
  unfold plC
  rw [H.A.fc, ob, tw_dead H hen hN hf (by decide), ob, if_pos rfl]
  dsimp only
  rw [H.A.fc, ob, tw_dead H hen hN hf (by decide), ob, if_pos rfl]
  dsimp only
  rw [H.A.fc, ob, c1, ob, H1.A.fc, ob, ts_dead H1 hen hN hf (by decide) (by decide), ob, if_pos rfl]
  dsimp only
  rw [H1.A.fc, ob, c2, ob, c3]
theorem jn12 (x y : Int32) : jnV 12 x y = if x ≤ y then 0 else 1 := by
  unfold jnV
  rw [if_neg (by decide), if_neg (by decide), if_pos rfl]
theorem jn11 (x y : Int32) : jnV 11 x y = if y ≤ x then 0 else 1 := by
  unfold jnV
  rw [if_neg (by decide), if_pos rfl]
theorem jn13 (x y : Int32) : jnV 13 x y = x &&& y := by
  unfold jnV
  rw [if_neg (by decide), if_neg (by decide), if_neg (by decide), if_pos rfl]
theorem jn14 (x y : Int32) : jnV 14 x y = x ||| y := by
  unfold jnV
  rw [if_neg (by decide), if_neg (by decide), if_neg (by decide), if_neg (by decide)]
theorem zg_01 {v : Int32} (h : v = 0 ∨ v = 1) : zg v = some v := if_pos h
theorem pl_sim (hen : en ≤ 400) (hN : 500 < N) (hD6 : D ≤ 6) : SimL rd xx a en tx 3 D True (plC N rd dp a0) (f_R_plain N) := by
  intro K i t n s H hs
  have hi := H.ie
  unfold plC
  rw [H.A.fc, ob]
  rcases takeWord_2 (N := N) H.A H.x hen hN H.C (w := 8) (by decide) with ⟨-, h8, L, l1, l2, l3⟩ | ⟨h8, l8⟩
  · have hgt := lw_gt hi (w := 8) (by decide) h8
    obtain ⟨hlt, -⟩ := wAt_L hi (w := 8) (by decide) h8
    have H1 := H.rq l2 l3
    obtain ⟨L2, s2, c1, H2, S2, c2⟩ := addStep_cl H1 hen 7 0
    obtain ⟨rfl, c3, c4⟩ := c2 (by omega)
    have sg : ∀ F, Seg F (m_iv L2 (a + 4)) (m_iv L2 (a + 5)) s (s + 1) 3 (F 6) := fun F => by
      have h := Seg.push (F := F) (s := m_iv L2 (a + 4)) (u := m_iv L2 (a + 5)) (i := s) (by rw [c3]; decide)
      rw [c3, if_neg (by decide)] at h
      exact (show Seg F (m_iv L2 (a + 4)) (m_iv L2 (a + 5)) s (s + 1) 1 (F 6) from h).mono (by decide)
    refine ⟨L2, _, _, _, _, ?_, H2, (H.st l2).trans S2, Nat.le_of_lt hgt, fun _ => ⟨by omega, hgt, fun F => ⟨_, sg F⟩⟩, fun r hT m z _ => ?_⟩
    · rw [l1, ob, if_neg (show ¬ ((1 : Int32), L).1 = 0 from i1n)]
      dsimp only
      rw [H1.g6, ob, H1.W.c0, ob, c1, ob]
    · obtain ⟨q, m1, m2, m3, m4⟩ := has_y (N := N) (w := 50) hT hen hN m (by decide) h8
      refine ⟨q.1 15, q, ?_, m2, MS.l (ML.at (lw_b hi).2 m3 m4), fun _ => (z.lx m2).1, fun _ => ?_⟩
      · unfold f_R_plain
        rw [m1, ob, if_neg (show ¬ ((1 : Int32), q).1 = 0 from i1n)]
        dsimp only
        rw [zg_01 (z.lx m2).1, ob]
      · have h := sg (fcR r)
        rw [show fcR r 6 = r.1 15 from rfl, ← m2.2 15 (by decide) (by decide)] at h
        exact h
  have n8 : ¬ wAt tx en i (s_byt 50) := fun h => h8 ⟨rfl, h⟩
  rw [l8, ob, if_pos rfl]
  dsimp only
  rw [H.A.fc, ob]
  rcases takeWord_2 (N := N) H.A H.x hen hN H.C (w := 9) (by decide) with ⟨-, h9, L, l1, l2, l3⟩ | ⟨h9, l9⟩
  · have hgt := lw_gt hi (w := 9) (by decide) h9
    obtain ⟨hlt, -⟩ := wAt_L hi (w := 9) (by decide) h9
    have H1 := H.rq l2 l3
    obtain ⟨L2, s2, c1, H2, S2, c2⟩ := addStep_cl H1 hen 8 0
    obtain ⟨rfl, c3, c4⟩ := c2 (by omega)
    have sg : ∀ F, Seg F (m_iv L2 (a + 4)) (m_iv L2 (a + 5)) s (s + 1) 3 (F 7) := fun F => by
      have h := Seg.push (F := F) (s := m_iv L2 (a + 4)) (u := m_iv L2 (a + 5)) (i := s) (by rw [c3]; decide)
      rw [c3, if_neg (by decide)] at h
      exact (show Seg F (m_iv L2 (a + 4)) (m_iv L2 (a + 5)) s (s + 1) 1 (F 7) from h).mono (by decide)
    refine ⟨L2, _, _, _, _, ?_, H2, (H.st l2).trans S2, Nat.le_of_lt hgt, fun _ => ⟨by omega, hgt, fun F => ⟨_, sg F⟩⟩, fun r hT m z _ => ?_⟩
    · rw [l1, ob, if_neg (show ¬ ((1 : Int32), L).1 = 0 from i1n)]
      dsimp only
      rw [H1.g6, ob, H1.W.c0, ob, c1, ob]
    · obtain ⟨q0, m5, m6, m7⟩ := has_n (N := N) (w := 50) hT hen hN m (by decide) n8
      obtain ⟨q, m1, m2, m3, m4⟩ := has_y (N := N) (w := 51) (hT.lx m6) hen hN m7 (by decide) h9
      have lx := m6.trans m2
      refine ⟨q.1 16, q, ?_, lx, MS.l (ML.at (lw_b hi).2 m3 m4), fun _ => (z.lx lx).2, fun _ => ?_⟩
      · unfold f_R_plain
        rw [m5, ob, if_pos rfl]
        dsimp only
        rw [m1, ob, if_neg (show ¬ ((1 : Int32), q).1 = 0 from i1n)]
        dsimp only
        rw [zg_01 (z.lx lx).2, ob]
      · have h := sg (fcR r)
        rw [show fcR r 7 = r.1 16 from rfl, ← lx.2 16 (by decide) (by decide)] at h
        exact h
  have n9 : ¬ wAt tx en i (s_byt 51) := fun h => h9 ⟨rfl, h⟩
  rw [l9, ob, if_pos rfl]
  dsimp only
  obtain ⟨L1, i1, t1, f1, s1, c1, H1, S1, hi1, d1, e1⟩ := sum_sim (N := N) (rd := rd) (xx := xx) (a := a) (tx := tx) hen hN hD6 K i t n s H hs
  rw [H.A.fc, ob, c1, ob, H1.A.fc, ob]
  have pre : ∀ r, TXm r tx en → ML r tx en i → Bz r → r.1 13 = iN D → ∃ v q, f_R_plain N r = (if (q.1 12) = (-1) then ((f_R_isSign N 60 q).bind fun z4 => if z4.1 = 0 then ((f_R_isSign N 62 z4.2).bind fun z5 => if z5.1 = 0 then ((f_R_wrong (z5.2.1 11) z5.2).bind fun z6 => some (0, z6)) else (f_R_plain_73 N v z4.1 z5.2)) else (f_R_plain_73 N v z4.1 z4.2)) else (some (0, q))) ∧ Lx r q ∧ MS q tx en i1 f1 D ∧ (f1 = -1 → Seg (fcR r) (m_iv L1 (a + 4)) (m_iv L1 (a + 5)) s s1 2 v) := fun r hT m z d => by
    obtain ⟨q0, m1, m2, m3⟩ := has_n (N := N) (w := 50) hT hen hN m (by decide) n8
    obtain ⟨q1, m4, m5, m6⟩ := has_n (N := N) (w := 51) (hT.lx m2) hen hN m3 (by decide) n9
    have lx := m2.trans m5
    obtain ⟨v, q, p1, p2, p3, -, p4⟩ := e1 q1 (hT.lx lx) m6 (z.lx lx) ((lx.2 13 (by decide) (by decide)).trans d)
    refine ⟨v, q, ?_, lx.trans p2, p3, fun hf => by rw [← fcR_lx lx]; exact p4 hf⟩
    unfold f_R_plain
    rw [m1, ob, if_pos rfl]
    dsimp only
    rw [m4, ob, if_pos rfl]
    dsimp only
    rw [p1, ob]
  by_cases hf1 : f1 = -1
  · subst hf1
    obtain ⟨d2, d3, d4⟩ := d1 rfl
    have hi1e := H1.ie
    have hss1 := S1.2.2.1
    -- behind the sign
    have on : ∀ (L2 : Mem) (x6 : Int32), LRS L2 rd xx a en tx (skN tx en (i1 + 1)) i1 (-1) n s1 → St rd a L1 L2 s1 s1 → i1 < en → ((x6 = 0 ∧ tx i1 = 62 ∧ ¬ (i1 < en ∧ tx i1 = 60)) ∨ (x6 = 1 ∧ tx i1 = 60)) → ∃ L i' t' f' s', f_LR_readAtom_96 N dp rd a0 x6 L2 = some L ∧ LRS L rd xx a en tx i' t' f' n s' ∧ St rd a K L s s' ∧ i ≤ i' ∧ (f' = -1 → s' + i ≤ s + i' ∧ i < i' ∧ ∀ F, ∃ v, Seg F (m_iv L (a + 4)) (m_iv L (a + 5)) s s' 3 v) ∧ ∀ r, TXm r tx en → ML r tx en i → Bz r → r.1 13 = iN D → ∃ v q, f_R_plain N r = some (v, q) ∧ Lx r q ∧ MS q tx en i' f' D ∧ (True → v = 0 ∨ v = 1) ∧ (f' = -1 → Seg (fcR r) (m_iv L (a + 4)) (m_iv L (a + 5)) s s' 3 v) := by
      intro L2 x6 H2 S2 hlt hx6
      have hsb := sk_b (tx := tx) (show i1 + 1 ≤ en by omega)
      obtain ⟨L3, i3, t3, f3, s3, c3, H3, S3, hi3, g1, g2⟩ := sum_sim (N := N) (rd := rd) (xx := xx) (a := a) (tx := tx) hen hN hD6 L2 _ _ n s1 H2 (by omega)
      have hx01 : x6 = 0 ∨ x6 = 1 := hx6.imp (fun z => z.1) (fun z => z.1)
      obtain ⟨L4, s4, c4, H4, S4, c5⟩ := addStep_cl H3 hen (if x6 = 0 then 12 else 11) 0
      have cl : f_LR_readAtom_96 N dp rd a0 x6 L2 = some L4 := by
        unfold f_LR_readAtom_96 f_LR_readAtom_115
        rw [H2.A.fc, ob, c3, ob, H3.g6, ob]
        rcases hx01 with rfl | rfl
        · rw [if_pos rfl] at c4
          rw [if_pos rfl, H3.W.c0, ob, c4, ob]
        · rw [if_neg i1n] at c4
          rw [if_neg i1n, H3.W.c0, ob, c4, ob]
      have SS : St rd a K L4 s s4 := ((S1.trans S2).trans S3).trans S4
      -- the model, from the sign on
      have mdl : ∀ r, TXm r tx en → ML r tx en i → Bz r → r.1 13 = iN D → ∃ v1 v2 q, f_R_plain N r = some ((if x6 = 0 then (if v1 ≤ v2 then (0 : Int32) else 1) else (if v2 ≤ v1 then 0 else 1)), q) ∧ Lx r q ∧ MS q tx en i3 f3 D ∧ Seg (fcR r) (m_iv L1 (a + 4)) (m_iv L1 (a + 5)) s s1 2 v1 ∧ (f3 = -1 → Seg (fcR r) (m_iv L3 (a + 4)) (m_iv L3 (a + 5)) s1 s3 2 v2) := fun r hT m z d => by
        obtain ⟨v1, q, p1, p2, p3, p4⟩ := pre r hT m z d
        have mq := p3.1 rfl
        have p73 : ∀ u, Lx q u → u.1 12 = -1 → u.1 11 = iN i1 → ∃ v2 q2, f_R_plain_73 N v1 x6 u = some ((if x6 = 0 then (if v1 ≤ v2 then (0 : Int32) else 1) else (if v2 ≤ v1 then 0 else 1)), q2) ∧ Lx q q2 ∧ MS q2 tx en i3 f3 D ∧ (f3 = -1 → Seg (fcR q) (m_iv L3 (a + 4)) (m_iv L3 (a + 5)) s1 s3 2 v2) := fun u lu u12 u11 => by
          have lx := lu.trans (Lx.s11 u (iN (i1 + 1)))
          have lr := p2.trans lx
          obtain ⟨v2, q2, o1, o2, o3, -, o4⟩ := g2 (r_set u 11 (iN (i1 + 1))) (hT.lx lr) (ML.at (by omega) u12 (set_s _ _ _)) (z.lx lr) ((lr.2 13 (by decide) (by decide)).trans d)
          refine ⟨v2, q2, ?_, lx.trans o2, o3, fun hf => by rw [← fcR_lx lx]; exact o4 hf⟩
          unfold f_R_plain_73
          rw [u11, iN_s, o1, ob]
          dsimp only
          by_cases h0 : x6 = 0
          · rw [if_pos h0, if_pos h0]
            by_cases h : v1 ≤ v2
            · rw [if_pos h, if_pos h]
            · rw [if_neg h, if_neg h]
          · rw [if_neg h0, if_neg h0]
            by_cases h : v2 ≤ v1
            · rw [if_pos h, if_pos h]
            · rw [if_neg h, if_neg h]
        rw [if_pos mq.1] at p1
        rcases hx6 with ⟨rfl, x1, x2⟩ | ⟨rfl, x1⟩
        · obtain ⟨u, u1, u2, u3, -⟩ := sign_n (N := N) (c := 60) (hT.lx p2) hen hN mq x2
          obtain ⟨u', u4, u5, u6, u7⟩ := sign_y (N := N) (c := 62) ((hT.lx p2).lx u2) hen hN u3 hlt x1
          obtain ⟨v2, q2, o1, o2, o3, o4⟩ := p73 u' (u2.trans u5) u6 u7
          refine ⟨v1, v2, q2, ?_, p2.trans o2, o3, p4 rfl, fun hf => by rw [← fcR_lx p2]; exact o4 hf⟩
          rw [p1, u1, ob, if_pos rfl]
          dsimp only
          rw [u4, ob, if_neg (show ¬ ((1 : Int32), u').1 = 0 from i1n)]
          exact o1
        · obtain ⟨u, u1, u2, u3, u4⟩ := sign_y (N := N) (c := 60) (hT.lx p2) hen hN mq hlt x1
          obtain ⟨v2, q2, o1, o2, o3, o4⟩ := p73 u u2 u3 u4
          refine ⟨v1, v2, q2, ?_, p2.trans o2, o3, p4 rfl, fun hf => by rw [← fcR_lx p2]; exact o4 hf⟩
          rw [p1, u1, ob, if_neg (show ¬ ((1 : Int32), u).1 = 0 from i1n)]
          exact o1
      have b01' : ∀ v1 v2 : Int32, (if x6 = 0 then (if v1 ≤ v2 then (0 : Int32) else 1) else (if v2 ≤ v1 then 0 else 1)) = 0 ∨ (if x6 = 0 then (if v1 ≤ v2 then (0 : Int32) else 1) else (if v2 ≤ v1 then 0 else 1)) = 1 := fun v1 v2 => by
        by_cases h0 : x6 = 0
        · rw [if_pos h0]
          by_cases h : v1 ≤ v2
          · rw [if_pos h]; exact Or.inl rfl
          · rw [if_neg h]; exact Or.inr rfl
        · rw [if_neg h0]
          by_cases h : v2 ≤ v1
          · rw [if_pos h]; exact Or.inl rfl
          · rw [if_neg h]; exact Or.inr rfl
      by_cases hf3 : f3 = -1
      · subst hf3
        obtain ⟨k1, k2, k3⟩ := g1 rfl
        have hi3e := H3.ie
        have hss3 := S3.2.2.1
        obtain ⟨rfl, c6, c7⟩ := c5 (by omega)
        have comb : ∀ F v1 v2, Seg F (m_iv L1 (a + 4)) (m_iv L1 (a + 5)) s s1 2 v1 → Seg F (m_iv L3 (a + 4)) (m_iv L3 (a + 5)) s1 s3 2 v2 → Seg F (m_iv L4 (a + 4)) (m_iv L4 (a + 5)) s (s3 + 1) 3 (if x6 = 0 then (if v1 ≤ v2 then (0 : Int32) else 1) else (if v2 ≤ v1 then 0 else 1)) := fun F v1 v2 q1 q2 => by
          have q3 := Seg.bin (h := 3) (((S2.trans S3).trans S4).lo (Nat.le_refl _) q1) (S4.lo (Nat.le_refl _) q2) (by rw [c6]; rcases hx01 with rfl | rfl <;> decide) (by decide) (by decide)
          rw [c6] at q3
          by_cases h0 : x6 = 0
          · rw [if_pos h0, jn12] at q3
            rw [if_pos h0]
            exact q3
          · rw [if_neg h0, jn11] at q3
            rw [if_neg h0]
            exact q3
        refine ⟨L4, _, _, _, _, cl, H4, SS, by omega, fun _ => ⟨by omega, by omega, fun F => ?_⟩, fun r hT m z d => ?_⟩
        · obtain ⟨v1, q1⟩ := d4 F
          obtain ⟨v2, q2⟩ := k3 F
          exact ⟨_, comb F v1 v2 q1 q2⟩
        · obtain ⟨v1, v2, q, p1, p2, p3, p4, p5⟩ := mdl r hT m z d
          exact ⟨_, q, p1, p2, p3, fun _ => b01' _ _, fun _ => comb _ _ _ p4 (p5 rfl)⟩
      · refine ⟨L4, _, _, _, _, cl, H4, SS, by omega, fun z => absurd z hf3, fun r hT m z d => ?_⟩
        obtain ⟨v1, v2, q, p1, p2, p3, p4, p5⟩ := mdl r hT m z d
        exact ⟨_, q, p1, p2, p3, fun _ => b01' _ _, fun z => absurd z hf3⟩
    rcases takeSign_2 (N := N) H1.A H1.x hen hN H1.C (c := 60) (by decide) (by decide) with ⟨-, g1, g2, L2, l1, l2, l3⟩ | ⟨g1, l1⟩
    · rw [l1, ob, if_neg (show ¬ ((1 : Int32), L2).1 = 0 from i1n)]
      exact on L2 1 (H1.rq l2 l3) (H1.st l2) g1 (Or.inr ⟨rfl, g2⟩)
    · rw [l1, ob, if_pos rfl]
      dsimp only
      have g1' : ¬ (i1 < en ∧ tx i1 = 60) := fun z => g1 ⟨rfl, z⟩
      rw [H1.A.fc, ob]
      obtain ⟨L2, k1, k2, k3⟩ := readSign_2 (N := N) H1.A H1.x hen hN H1.C (c := 62) (by decide) (by decide)
      rw [k1, ob]
      rcases k3 with ⟨-, k4, k5, k6⟩ | ⟨k4, k5⟩
      · exact on L2 0 (H1.rq k2 k6) (H1.st k2) k4 (Or.inl ⟨rfl, k5, g1'⟩)
      · rw [if_pos rfl] at k5
        have hne : iN i1 ≠ -1 := iN_m1 (by omega)
        have H2 := H1.rq k2 k5
        obtain ⟨L3, s3, c3, H3, S3⟩ := a96_dead (N := N) (dp := dp) (a0 := a0) H2 hen hN hne 0
        refine ⟨L3, _, _, _, _, c3, H3, (S1.trans (H1.st k2)).trans S3, by omega, fun z => absurd z hne, fun r hT m z d => ?_⟩
        obtain ⟨v1, q, p1, p2, p3, p4⟩ := pre r hT m z d
        have mq := p3.1 rfl
        obtain ⟨u, u1, u2, u3, -⟩ := sign_n (N := N) (c := 60) (hT.lx p2) hen hN mq g1'
        obtain ⟨u', u4, u5, u6, u7⟩ := sign_n (N := N) (c := 62) ((hT.lx p2).lx u2) hen hN u3 (fun z => k4 ⟨rfl, z⟩)
        refine ⟨0, r_set u' 12 (iN i1), ?_, ((p2.trans u2).trans u5).trans (Lx.s12 _ _), (MS.d (D := 6) hi1e hen ⟨set_s _ _ _, i1, by omega, u7⟩).mono hD6, fun _ => Or.inl rfl, fun z => absurd z hne⟩
        rw [p1, if_pos mq.1, u1, ob, if_pos rfl]
        dsimp only
        rw [u4, ob, if_pos rfl]
        dsimp only
        rw [u7, wrong_md u6.1, ob]
  · obtain ⟨L2, c2, H2, S2⟩ := rs_dead (N := N) H1 hen hN hf1 (c := 62) (by decide) (by decide)
    obtain ⟨L3, s3, c3, H3, S3⟩ := a96_dead (N := N) (dp := dp) (a0 := a0) H2 hen hN hf1 0
    refine ⟨L3, i1, t1, f1, s3, ?_, H3, (S1.trans S2).trans S3, hi1, fun z => absurd z hf1, fun r hT m z d => ?_⟩
    · rw [ts_dead H1 hen hN hf1 (by decide) (by decide), ob, if_pos rfl]
      dsimp only
      rw [H1.A.fc, ob, c2, ob, c3]
    · obtain ⟨v1, q, p1, p2, p3, p4⟩ := pre r hT m z d
      refine ⟨0, q, ?_, p2, p3, fun _ => Or.inl rfl, fun z => absurd z hf1⟩
      rw [p1, if_neg]
      rw [(p3.2 hf1).1]
      exact hf1
end Pl
