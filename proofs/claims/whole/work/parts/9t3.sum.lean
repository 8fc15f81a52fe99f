section Su
variable {N en i j k p t w b rd xx a n s s0 D : Nat} {tx : Nat → Int32} {K L M : Mem} {f fl v u : Int32} {r q : Rho}
theorem sum_9_dead (H : LRS K rd xx a en tx i t fl n s) (hen : en ≤ 400) (hN : 500 < N) (hf : fl ≠ -1) (fuel : Nat) (z : Int32) : f_LR_readSum_9 N rd (fuel + 1) z K = some K := by
  rw [f_LR_readSum_9]
  by_cases h : z ≤ 0
  · rw [if_pos h]
  · rw [if_neg h, H.A.fc, ob]
    rcases takeSign_2 (N := N) H.A H.x hen hN H.C (c := 43) (by decide) (by decide) with ⟨g1, -⟩ | ⟨-, g2⟩
    · exact absurd g1 hf
    · rw [g2, ob, if_pos rfl]
theorem left_2 (H : LRS K rd xx a en tx i t fl n s) : f_TxR_bytesLeft_2 rd K = some (iN (en - i)) := by
  unfold f_TxR_bytesLeft_2
  rw [H.A.fi, ob, H.A.fi, ob, H.C.2.1, H.C.2.2.2.1, iN_sub H.ie]
theorem iN_p (k : Nat) : iN (k + 1) + (-1) = iN k := by
  rw [← Int32.sub_eq_add_neg]
  exact iN_sub (a := k + 1) (b := 1) (by omega)
theorem St.lo (h : St rd a K L s s0) {F : Nat → Int32} {e hh : Nat} (he : e ≤ s) {i : Nat} (g : Seg F (m_iv K (a + 4)) (m_iv K (a + 5)) i e hh v) : Seg F (m_iv L (a + 4)) (m_iv L (a + 5)) i e hh v := g.cg fun k _ h2 => h.2.2.2.2 k (by omega)
theorem sum_loop (hen : en ≤ 400) (hN : 500 < N) (hD6 : D ≤ 6) : ∀ (left : Nat) (K : Mem) (i t n s s0 fuel : Nat), LRS K rd xx a en tx i t (-1) n s → s ≤ i → s0 ≤ s → en ≤ i + left → left ≤ 400 → left < fuel → (∀ F, ∃ v, Seg F (m_iv K (a + 4)) (m_iv K (a + 5)) s0 s 2 v) →
    ∃ L i' t' f' s', f_LR_readSum_9 N rd fuel (iN left) K = some L ∧ LRS L rd xx a en tx i' t' f' n s' ∧ St rd a K L s s' ∧ i ≤ i' ∧ (f' = -1 → s' + i ≤ s + i' ∧ ∀ F, ∃ v, Seg F (m_iv L (a + 4)) (m_iv L (a + 5)) s0 s' 2 v) ∧ ∀ r mf v1, TXm r tx en → ML r tx en i → Bz r → r.1 13 = iN D → left < mf → Seg (fcR r) (m_iv K (a + 4)) (m_iv K (a + 5)) s0 s 2 v1 → ∃ v q, f_R_sum_5 N mf v1 r = some (v, q) ∧ Lx r q ∧ MS q tx en i' f' D ∧ (f' = -1 → Seg (fcR r) (m_iv L (a + 4)) (m_iv L (a + 5)) s0 s' 2 v) := by
  intro left
  induction left with
  | zero =>
    intro K i t n s s0 fuel H hs hs0 hei hl hf hv
    obtain ⟨fu, rfl⟩ : ∃ fu, fuel = fu + 1 := ⟨fuel - 1, by omega⟩
    have hi := H.ie
    refine ⟨K, i, t, -1, s, by rw [f_LR_readSum_9, if_pos (show iN 0 ≤ (0 : Int32) by decide)], H, St.refl K, Nat.le_refl _, fun _ => ⟨Nat.le_refl _, hv⟩, fun r mf v1 hT m _ _ hmf hv1 => ?_⟩
    obtain ⟨mg, rfl⟩ : ∃ mg, mf = mg + 1 := ⟨mf - 1, by omega⟩
    obtain ⟨q, m1, m2, m3, -⟩ := sign_n (N := N) (c := 43) hT hen hN m (fun z => by omega)
    exact ⟨v1, q, by rw [f_R_sum_5, if_pos m.1, m1, ob, if_pos rfl], m2, MS.l m3, fun _ => hv1⟩
  | succ left ih =>
    intro K i t n s s0 fuel H hs hs0 hei hl hf hv
    obtain ⟨fu, rfl⟩ : ∃ fu, fuel = fu + 1 := ⟨fuel - 1, by omega⟩
    have hi := H.ie
    rw [f_LR_readSum_9, if_neg (show ¬ iN (left + 1) ≤ (0 : Int32) from iN_nle (k := 0) (by omega) (by omega)), H.A.fc, ob]
    rcases takeSign_2 (N := N) H.A H.x hen hN H.C (c := 43) (by decide) (by decide) with ⟨-, h1, h2, L1, l1, l2, l3⟩ | ⟨h1, l1⟩
    · have hsb := sk_b (tx := tx) (show i + 1 ≤ en by omega)
      have H1 := H.rq l2 l3
      obtain ⟨L2, i2, t2, f2, s2, c1, H2, S2, hi2, c2, c3⟩ := part_sim (N := N) (rd := rd) (xx := xx) (a := a) (tx := tx) hen hN hD6 L1 _ _ n s H1 (by omega)
      obtain ⟨L3, s3, c4, H3, S3, c5⟩ := addStep_cl H2 hen 10 0
      have cl : (if ((1 : Int32), L1).1 = 0 then some ((1 : Int32), L1).2 else (ck ((1 : Int32), L1).2 2 rd).bind fun _ => (f_LR_readPart N rd ((1 : Int32), L1).2).bind fun z4 => (gR z4 2 rd 6).bind fun v5 => (ck z4 1 v5).bind fun _ => (f_Law_addStep v5 10 0 z4).bind fun z6 => f_LR_readSum_9 N rd fu (iN (left + 1) + (-1)) z6) = f_LR_readSum_9 N rd fu (iN left) L3 := by
        rw [if_neg (show ¬ ((1 : Int32), L1).1 = 0 from i1n)]
        dsimp only
        rw [H1.A.fc, ob, c1, ob, H2.g6, ob, H2.W.c0, ob, c4, ob, iN_p]
      have SS : St rd a K L3 s s3 := ((H.st l2).trans S2).trans S3
      have mdl : ∀ r mg v1, TXm r tx en → ML r tx en i → Bz r → r.1 13 = iN D → ∃ v q, f_R_sum_5 N (mg + 1) v1 r = f_R_sum_5 N mg (v1 + v) q ∧ Lx r q ∧ MS q tx en i2 f2 D ∧ (f2 = -1 → Seg (fcR r) (m_iv L2 (a + 4)) (m_iv L2 (a + 5)) s s2 1 v) := fun r mg v1 hT m z d => by
        obtain ⟨q0, m1, m2, m3, m4⟩ := sign_y (N := N) (c := 43) hT hen hN m h1 h2
        have lx := m2.trans (Lx.s11 q0 (iN (i + 1)))
        obtain ⟨v, q, p1, p2, p3, -, p4⟩ := c3 (r_set q0 11 (iN (i + 1))) (hT.lx lx) (ML.at (by omega) m3 (set_s _ _ _)) (z.lx lx) ((lx.2 13 (by decide) (by decide)).trans d)
        refine ⟨v, q, ?_, lx.trans p2, p3, fun hf2 => by rw [← fcR_lx lx]; exact p4 hf2⟩
        rw [f_R_sum_5, if_pos m.1, m1, ob, if_neg (show ¬ ((1 : Int32), q0).1 = 0 from i1n)]
        dsimp only
        rw [m4, iN_s, p1, ob]
      rw [l1, ob, cl]
      by_cases hf2 : f2 = -1
      · subst hf2
        obtain ⟨d1, d2, d3⟩ := c2 rfl
        have hi2e := H2.ie
        have hss := S2.2.2.1
        obtain ⟨rfl, d4, d5⟩ := c5 (by omega)
        have comb : ∀ F v1 v2, Seg F (m_iv K (a + 4)) (m_iv K (a + 5)) s0 s 2 v1 → Seg F (m_iv L2 (a + 4)) (m_iv L2 (a + 5)) s s2 1 v2 → Seg F (m_iv L3 (a + 4)) (m_iv L3 (a + 5)) s0 (s2 + 1) 2 (v1 + v2) := fun F v1 v2 g1 g2 => by
          have g3 := Seg.bin (h := 2) (SS.lo (Nat.le_refl _) g1) (S3.lo (Nat.le_refl _) g2) (by rw [d4]; decide) (by decide) (by decide)
          rw [d4] at g3
          exact g3
        obtain ⟨L, i', t', f', s', e1, e2, e3, e4, e5, e6⟩ := ih L3 i2 t2 n (s2 + 1) s0 fu H3 (by omega) (by omega) (by omega) (by omega) (by omega) (fun F => by
          obtain ⟨v1, g1⟩ := hv F
          obtain ⟨v2, g2⟩ := d3 F
          exact ⟨_, comb F v1 v2 g1 g2⟩)
        refine ⟨L, i', t', f', s', e1, e2, SS.trans e3, by omega, fun hf' => ⟨by have := (e5 hf').1; omega, (e5 hf').2⟩, fun r mf v1 hT m z d hmf hv1 => ?_⟩
        obtain ⟨mg, rfl⟩ : ∃ mg, mf = mg + 1 := ⟨mf - 1, by omega⟩
        obtain ⟨v, q, p1, p2, p3, p4⟩ := mdl r mg v1 hT m z d
        obtain ⟨v', q', o1, o2, o3, o4⟩ := e6 q mg (v1 + v) (hT.lx p2) (p3.1 rfl) (z.lx p2) ((p2.2 13 (by decide) (by decide)).trans d) (by omega) (by rw [fcR_lx p2]; exact comb _ _ _ hv1 (p4 rfl))
        exact ⟨v', q', p1.trans o1, p2.trans o2, o3, fun hf' => by rw [← fcR_lx p2]; exact o4 hf'⟩
      · obtain ⟨fv, rfl⟩ : ∃ fv, fu = fv + 1 := ⟨fu - 1, by omega⟩
        refine ⟨L3, i2, t2, f2, s3, sum_9_dead H3 hen hN hf2 fv _, H3, SS, by omega, fun z => absurd z hf2, fun r mf v1 hT m z d hmf hv1 => ?_⟩
        obtain ⟨mg, rfl⟩ : ∃ mg, mf = mg + 1 := ⟨mf - 1, by omega⟩
        obtain ⟨mh, rfl⟩ : ∃ mh, mg = mh + 1 := ⟨mg - 1, by omega⟩
        obtain ⟨v, q, p1, p2, p3, -⟩ := mdl r (mh + 1) v1 hT m z d
        refine ⟨v1 + v, q, ?_, p2, p3, fun z => absurd z hf2⟩
        rw [p1, f_R_sum_5, if_neg]
        rw [(p3.2 hf2).1]
        exact hf2
    · have cl : (if ((0 : Int32), K).1 = 0 then some ((0 : Int32), K).2 else (ck ((0 : Int32), K).2 2 rd).bind fun _ => (f_LR_readPart N rd ((0 : Int32), K).2).bind fun z4 => (gR z4 2 rd 6).bind fun v5 => (ck z4 1 v5).bind fun _ => (f_Law_addStep v5 10 0 z4).bind fun z6 => f_LR_readSum_9 N rd fu (iN (left + 1) + (-1)) z6) = some K := if_pos rfl
      rw [l1, ob, cl]
      refine ⟨K, i, t, -1, s, rfl, H, St.refl K, Nat.le_refl _, fun _ => ⟨Nat.le_refl _, hv⟩, fun r mf v1 hT m _ _ hmf hv1 => ?_⟩
      obtain ⟨mg, rfl⟩ : ∃ mg, mf = mg + 1 := ⟨mf - 1, by omega⟩
      obtain ⟨q, m1, m2, m3, -⟩ := sign_n (N := N) (c := 43) hT hen hN m (fun z => h1 ⟨rfl, z⟩)
      exact ⟨v1, q, by rw [f_R_sum_5, if_pos m.1, m1, ob, if_pos rfl], m2, MS.l m3, fun _ => hv1⟩
theorem sum_sim (hen : en ≤ 400) (hN : 500 < N) (hD6 : D ≤ 6) : SimL rd xx a en tx 2 D False (f_LR_readSum N rd) (f_R_sum N) := by
  intro K i t n s H hs
  obtain ⟨L2, i2, t2, f2, s2, c1, H2, S2, hi2, c2, c3⟩ := part_sim (N := N) (rd := rd) (xx := xx) (a := a) (tx := tx) hen hN hD6 K i t n s H hs
  have hi2e := H2.ie
  unfold f_LR_readSum
  rw [H.A.fc, ob, c1, ob, H2.A.fc, ob, left_2 H2, ob]
  by_cases hf2 : f2 = -1
  · subst hf2
    obtain ⟨d1, d2, d3⟩ := c2 rfl
    obtain ⟨L, i', t', f', s', e1, e2, e3, e4, e5, e6⟩ := sum_loop (N := N) (D := D) hen hN hD6 (en - i2) L2 i2 t2 n s2 s N H2 (by omega) S2.2.2.1 (by omega) (by omega) (by omega) (fun F => by
      obtain ⟨v, g⟩ := d3 F
      exact ⟨v, g.mono (by decide)⟩)
    refine ⟨L, i', t', f', s', e1, e2, S2.trans e3, by omega, fun hf' => ⟨by have := (e5 hf').1; omega, by omega, (e5 hf').2⟩, fun r hT m z d => ?_⟩
    obtain ⟨v, q, p1, p2, p3, -, p4⟩ := c3 r hT m z d
    obtain ⟨v', q', o1, o2, o3, o4⟩ := e6 q N v (hT.lx p2) (p3.1 rfl) (z.lx p2) ((p2.2 13 (by decide) (by decide)).trans d) (by omega) (by rw [fcR_lx p2]; exact (p4 rfl).mono (by decide))
    refine ⟨v', q', ?_, p2.trans o2, o3, fun z => z.elim, fun hf' => by rw [← fcR_lx p2]; exact o4 hf'⟩
    unfold f_R_sum
    rw [p1, ob]
    exact o1
  · obtain ⟨fv, hfv⟩ : ∃ fv, N = fv + 1 := ⟨N - 1, by omega⟩
    have e1 : f_LR_readSum_9 N rd N (iN (en - i2)) L2 = some L2 := by
      have : ∀ g, g = fv + 1 → f_LR_readSum_9 N rd g (iN (en - i2)) L2 = some L2 := fun g hg => by rw [hg]; exact sum_9_dead H2 hen hN hf2 fv _
      exact this N hfv
    refine ⟨L2, i2, t2, f2, s2, e1, H2, S2, hi2, fun z => absurd z hf2, fun r hT m z d => ?_⟩
    obtain ⟨v, q, p1, p2, p3, -, -⟩ := c3 r hT m z d
    refine ⟨v, q, ?_, p2, p3, fun z => z.elim, fun z => absurd z hf2⟩
    have e2 : f_R_sum_5 N N v q = some (v, q) := by
      have : ∀ g, g = fv + 1 → f_R_sum_5 N g v q = some (v, q) := fun g hg => by
        rw [hg, f_R_sum_5, if_neg]
        rw [(p3.2 hf2).1]
        exact hf2
      exact this N hfv
    unfold f_R_sum
    rw [p1, ob]
    exact e2
theorem sum_dead (hen : en ≤ 400) (hN : 500 < N) : DeadL rd xx a en tx (f_LR_readSum N rd) := by
  intro K i t fl n s hf H
  obtain ⟨L, s', c1, H1, S1⟩ := part_dead (N := N) (rd := rd) (xx := xx) (a := a) (tx := tx) hen hN K i t fl n s hf H
  obtain ⟨fv, hfv⟩ : ∃ fv, N = fv + 1 := ⟨N - 1, by omega⟩
  have e1 : f_LR_readSum_9 N rd N (iN (en - i)) L = some L := by
    have : ∀ g, g = fv + 1 → f_LR_readSum_9 N rd g (iN (en - i)) L = some L := fun g hg => by rw [hg]; exact sum_9_dead H1 hen hN hf fv _
    exact this N hfv
  refine ⟨L, s', ?_, H1, S1⟩
  unfold f_LR_readSum
  rw [H.A.fc, ob, c1, ob, H1.A.fc, ob, left_2 H1, ob]
  exact e1
end Su
