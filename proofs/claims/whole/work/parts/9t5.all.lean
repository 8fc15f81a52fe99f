section Al
variable {N en i j k p t w b rd xx a n s s0 D hA : Nat} {tx : Nat → Int32} {K L M : Mem} {f fl v u : Int32} {r q : Rho} {dp : Nat → Int32 → Int32 → Mem → Option Mem} {a0 : Int32} {gm : Rho → Option (Int32 × Rho)}
theorem all_10_dead (H : LRS K rd xx a en tx i t fl n s) (hen : en ≤ 400) (hN : 500 < N) (hf : fl ≠ -1) (fuel : Nat) (z : Int32) : f_LR_readAll_10 N dp rd a0 (fuel + 1) z K = some K := by
  rw [f_LR_readAll_10]
  by_cases h : z ≤ 0
  · rw [if_pos h]
  · rw [if_neg h, H.A.fc, ob, tw_dead H hen hN hf (by decide), ob, if_pos rfl]
theorem all_step {x1 v : Int32} (h1 : x1 = 0 ∨ x1 = 1) (h2 : v = 0 ∨ v = 1) (g : Nat) (q : Rho) : (if x1 = 0 then (f_R_every_39 N gm (f_R_every_5 N gm g) q) else (if v = 0 then (f_R_every_39 N gm (f_R_every_5 N gm g) q) else (f_R_every_40 N gm (f_R_every_5 N gm g) 1 q))) = f_R_every_5 N gm g (x1 &&& v) q ∧ ((x1 &&& v) = 0 ∨ (x1 &&& v) = 1) := by
  rcases h1 with rfl | rfl <;> rcases h2 with rfl | rfl <;> exact ⟨rfl, by decide⟩
theorem all_loop (hen : en ≤ 400) (hN : 500 < N) (hhA : 1 ≤ hA) (AT : SimL rd xx a en tx hA D True (f_LR_readAtom N dp rd a0) (gm)) : ∀ (left : Nat) (K : Mem) (i t n s s0 fuel : Nat), LRS K rd xx a en tx i t (-1) n s → s ≤ i → s0 ≤ s → en ≤ i + left → left ≤ 400 → left < fuel → (∀ F, ∃ v, Seg F (m_iv K (a + 4)) (m_iv K (a + 5)) s0 s (hA + 1) v) →
    ∃ L i' t' f' s', f_LR_readAll_10 N dp rd a0 fuel (iN left) K = some L ∧ LRS L rd xx a en tx i' t' f' n s' ∧ St rd a K L s s' ∧ i ≤ i' ∧ (f' = -1 → s' + i ≤ s + i' ∧ ∀ F, ∃ v, Seg F (m_iv L (a + 4)) (m_iv L (a + 5)) s0 s' (hA + 1) v) ∧ ∀ r mf v1, TXm r tx en → ML r tx en i → Bz r → r.1 13 = iN D → left < mf → (v1 = 0 ∨ v1 = 1) → Seg (fcR r) (m_iv K (a + 4)) (m_iv K (a + 5)) s0 s (hA + 1) v1 → ∃ v q, f_R_every_5 N gm mf v1 r = some (v, q) ∧ Lx r q ∧ MS q tx en i' f' D ∧ (v = 0 ∨ v = 1) ∧ (f' = -1 → Seg (fcR r) (m_iv L (a + 4)) (m_iv L (a + 5)) s0 s' (hA + 1) v) := by
  intro left
  induction left with
  | zero =>
    intro K i t n s s0 fuel H hs hs0 hei hl hf hv
    obtain ⟨fu, rfl⟩ : ∃ fu, fuel = fu + 1 := ⟨fuel - 1, by omega⟩
    have hi := H.ie
    refine ⟨K, i, t, -1, s, by rw [f_LR_readAll_10, if_pos (show iN 0 ≤ (0 : Int32) by decide)], H, St.refl K, Nat.le_refl _, fun _ => ⟨Nat.le_refl _, hv⟩, fun r mf v1 hT m _ _ hmf hv01 hv1 => ?_⟩
    obtain ⟨mg, rfl⟩ : ∃ mg, mf = mg + 1 := ⟨mf - 1, by omega⟩
    obtain ⟨q, m1, m2, m3⟩ := has_n (N := N) (w := 58) hT hen hN m (by decide) (fun z => by have := wAt_lt z hi (by decide); omega)
    exact ⟨v1, q, by rw [f_R_every_5, if_pos m.1, m1, ob, if_pos rfl, zg_01 hv01, ob], m2, MS.l m3, hv01, fun _ => hv1⟩
  | succ left ih =>
    intro K i t n s s0 fuel H hs hs0 hei hl hf hv
    obtain ⟨fu, rfl⟩ : ∃ fu, fuel = fu + 1 := ⟨fuel - 1, by omega⟩
    have hi := H.ie
    rw [f_LR_readAll_10, if_neg (show ¬ iN (left + 1) ≤ (0 : Int32) from iN_nle (k := 0) (by omega) (by omega)), H.A.fc, ob]
    rcases takeWord_2 (N := N) H.A H.x hen hN H.C (w := 16) (by decide) with ⟨-, h1, L1, l1, l2, l3⟩ | ⟨h1, l1⟩
    · have hgt := lw_gt hi (w := 16) (by decide) h1
      have H1 := H.rq l2 l3
      obtain ⟨L2, i2, t2, f2, s2, c1, H2, S2, hi2, c2, c3⟩ := AT L1 _ _ n s H1 (by omega)
      obtain ⟨L3, s3, c4, H3, S3, c5⟩ := addStep_cl H2 hen 13 0
      have cl : (if ((1 : Int32), L1).1 = 0 then some ((1 : Int32), L1).2 else (ck ((1 : Int32), L1).2 2 rd).bind fun _ => (f_LR_readAtom N dp rd a0 ((1 : Int32), L1).2).bind fun z4 => (gR z4 2 rd 6).bind fun v5 => (ck z4 1 v5).bind fun _ => (f_Law_addStep v5 13 0 z4).bind fun z6 => f_LR_readAll_10 N dp rd a0 fu (iN (left + 1) + (-1)) z6) = f_LR_readAll_10 N dp rd a0 fu (iN left) L3 := by
        rw [if_neg (show ¬ ((1 : Int32), L1).1 = 0 from i1n)]
        dsimp only
        rw [H1.A.fc, ob, c1, ob, H2.g6, ob, H2.W.c0, ob, c4, ob, iN_p]
      have SS : St rd a K L3 s s3 := ((H.st l2).trans S2).trans S3
      have mdl : ∀ r mg v1, TXm r tx en → ML r tx en i → Bz r → r.1 13 = iN D → (v1 = 0 ∨ v1 = 1) → ∃ v q, f_R_every_5 N gm (mg + 1) v1 r = f_R_every_5 N gm mg (v1 &&& v) q ∧ ((v1 &&& v) = 0 ∨ (v1 &&& v) = 1) ∧ Lx r q ∧ MS q tx en i2 f2 D ∧ (f2 = -1 → Seg (fcR r) (m_iv L2 (a + 4)) (m_iv L2 (a + 5)) s s2 hA v) := fun r mg v1 hT m z d hv01 => by
        obtain ⟨q0, m1, m2, m3, m4⟩ := has_y (N := N) (w := 58) hT hen hN m (by decide) h1
        obtain ⟨v, q, p1, p2, p3, p5, p4⟩ := c3 q0 (hT.lx m2) (ML.at (lw_b hi).2 m3 m4) (z.lx m2) ((m2.2 13 (by decide) (by decide)).trans d)
        obtain ⟨st1, st2⟩ := all_step (N := N) (gm := gm) hv01 (p5 trivial) mg q
        refine ⟨v, q, ?_, st2, m2.trans p2, p3, fun hf2 => by rw [← fcR_lx m2]; exact p4 hf2⟩
        rw [f_R_every_5, if_pos m.1, m1, ob, if_neg (show ¬ ((1 : Int32), q0).1 = 0 from i1n)]
        dsimp only
        rw [p1, ob]
        exact st1
      rw [l1, ob, cl]
      by_cases hf2 : f2 = -1
      · subst hf2
        obtain ⟨d1, d2, d3⟩ := c2 rfl
        have hi2e := H2.ie
        have hss := S2.2.2.1
        obtain ⟨rfl, d4, d5⟩ := c5 (by omega)
        have comb : ∀ F v1 v2, Seg F (m_iv K (a + 4)) (m_iv K (a + 5)) s0 s (hA + 1) v1 → Seg F (m_iv L2 (a + 4)) (m_iv L2 (a + 5)) s s2 hA v2 → Seg F (m_iv L3 (a + 4)) (m_iv L3 (a + 5)) s0 (s2 + 1) (hA + 1) (v1 &&& v2) := fun F v1 v2 g1 g2 => by
          have g3 := Seg.bin (h := hA + 1) (SS.lo (Nat.le_refl _) g1) (S3.lo (Nat.le_refl _) g2) (by rw [d4]; decide) (Nat.le_refl _) (Nat.le_refl _)
          rw [d4, jn13] at g3
          exact g3
        obtain ⟨L, i', t', f', s', e1, e2, e3, e4, e5, e6⟩ := ih L3 i2 t2 n (s2 + 1) s0 fu H3 (by omega) (by omega) (by omega) (by omega) (by omega) (fun F => by
          obtain ⟨v1, g1⟩ := hv F
          obtain ⟨v2, g2⟩ := d3 F
          exact ⟨_, comb F v1 v2 g1 g2⟩)
        refine ⟨L, i', t', f', s', e1, e2, SS.trans e3, by omega, fun hf' => ⟨by have := (e5 hf').1; omega, (e5 hf').2⟩, fun r mf v1 hT m z d hmf hv01 hv1 => ?_⟩
        obtain ⟨mg, rfl⟩ : ∃ mg, mf = mg + 1 := ⟨mf - 1, by omega⟩
        obtain ⟨v, q, p1, p5, p2, p3, p4⟩ := mdl r mg v1 hT m z d hv01
        obtain ⟨v', q', o1, o2, o3, o5, o4⟩ := e6 q mg (v1 &&& v) (hT.lx p2) (p3.1 rfl) (z.lx p2) ((p2.2 13 (by decide) (by decide)).trans d) (by omega) p5 (by rw [fcR_lx p2]; exact comb _ _ _ hv1 (p4 rfl))
        exact ⟨v', q', p1.trans o1, p2.trans o2, o3, o5, fun hf' => by rw [← fcR_lx p2]; exact o4 hf'⟩
      · obtain ⟨fv, rfl⟩ : ∃ fv, fu = fv + 1 := ⟨fu - 1, by omega⟩
        refine ⟨L3, i2, t2, f2, s3, all_10_dead H3 hen hN hf2 fv _, H3, SS, by omega, fun z => absurd z hf2, fun r mf v1 hT m z d hmf hv01 hv1 => ?_⟩
        obtain ⟨mg, rfl⟩ : ∃ mg, mf = mg + 1 := ⟨mf - 1, by omega⟩
        obtain ⟨mh, rfl⟩ : ∃ mh, mg = mh + 1 := ⟨mg - 1, by omega⟩
        obtain ⟨v, q, p1, p5, p2, p3, -⟩ := mdl r (mh + 1) v1 hT m z d hv01
        refine ⟨v1 &&& v, q, ?_, p2, p3, p5, fun z => absurd z hf2⟩
        have hq : ¬ q.1 12 = -1 := by rw [(p3.2 hf2).1]; exact hf2
        rw [p1, f_R_every_5, if_neg hq, zg_01 p5, ob]
    · have cl : (if ((0 : Int32), K).1 = 0 then some ((0 : Int32), K).2 else (ck ((0 : Int32), K).2 2 rd).bind fun _ => (f_LR_readAtom N dp rd a0 ((0 : Int32), K).2).bind fun z4 => (gR z4 2 rd 6).bind fun v5 => (ck z4 1 v5).bind fun _ => (f_Law_addStep v5 13 0 z4).bind fun z6 => f_LR_readAll_10 N dp rd a0 fu (iN (left + 1) + (-1)) z6) = some K := if_pos rfl
      rw [l1, ob, cl]
      refine ⟨K, i, t, -1, s, rfl, H, St.refl K, Nat.le_refl _, fun _ => ⟨Nat.le_refl _, hv⟩, fun r mf v1 hT m _ _ hmf hv01 hv1 => ?_⟩
      obtain ⟨mg, rfl⟩ : ∃ mg, mf = mg + 1 := ⟨mf - 1, by omega⟩
      obtain ⟨q, m1, m2, m3⟩ := has_n (N := N) (w := 58) hT hen hN m (by decide) (fun z => h1 ⟨rfl, z⟩)
      exact ⟨v1, q, by rw [f_R_every_5, if_pos m.1, m1, ob, if_pos rfl, zg_01 hv01, ob], m2, MS.l m3, hv01, fun _ => hv1⟩
theorem all_sim (hen : en ≤ 400) (hN : 500 < N) (hhA : 1 ≤ hA) (AT : SimL rd xx a en tx hA D True (f_LR_readAtom N dp rd a0) (gm)) : SimL rd xx a en tx (hA + 1) D True (f_LR_readAll N dp rd a0) (f_R_every N gm) := by
  intro K i t n s H hs
  obtain ⟨L2, i2, t2, f2, s2, c1, H2, S2, hi2, c2, c3⟩ := AT K i t n s H hs
  have hi2e := H2.ie
  unfold f_LR_readAll
  rw [H.A.fc, ob, c1, ob, H2.A.fc, ob, left_2 H2, ob]
  by_cases hf2 : f2 = -1
  · subst hf2
    obtain ⟨d1, d2, d3⟩ := c2 rfl
    obtain ⟨L, i', t', f', s', e1, e2, e3, e4, e5, e6⟩ := all_loop (N := N) (D := D) (dp := dp) (a0 := a0) (gm := gm) hen hN hhA AT (en - i2) L2 i2 t2 n s2 s N H2 (by omega) S2.2.2.1 (by omega) (by omega) (by omega) (fun F => by
      obtain ⟨v, g⟩ := d3 F
      exact ⟨v, g.mono (Nat.le_succ _)⟩)
    refine ⟨L, i', t', f', s', e1, e2, S2.trans e3, by omega, fun hf' => ⟨by have := (e5 hf').1; omega, by omega, (e5 hf').2⟩, fun r hT m z d => ?_⟩
    obtain ⟨v, q, p1, p2, p3, p5, p4⟩ := c3 r hT m z d
    obtain ⟨v', q', o1, o2, o3, o5, o4⟩ := e6 q N v (hT.lx p2) (p3.1 rfl) (z.lx p2) ((p2.2 13 (by decide) (by decide)).trans d) (by omega) (p5 trivial) (by rw [fcR_lx p2]; exact (p4 rfl).mono (Nat.le_succ _))
    refine ⟨v', q', ?_, p2.trans o2, o3, fun _ => o5, fun hf' => by rw [← fcR_lx p2]; exact o4 hf'⟩
    unfold f_R_every
    rw [p1, ob]
    exact o1
  · obtain ⟨fv, hfv⟩ : ∃ fv, N = fv + 1 := ⟨N - 1, by omega⟩
    have e1 : f_LR_readAll_10 N dp rd a0 N (iN (en - i2)) L2 = some L2 := by
      have : ∀ g, g = fv + 1 → f_LR_readAll_10 N dp rd a0 g (iN (en - i2)) L2 = some L2 := fun g hg => by rw [hg]; exact all_10_dead H2 hen hN hf2 fv _
      exact this N hfv
    refine ⟨L2, i2, t2, f2, s2, e1, H2, S2, hi2, fun z => absurd z hf2, fun r hT m z d => ?_⟩
    obtain ⟨v, q, p1, p2, p3, p5, -⟩ := c3 r hT m z d
    refine ⟨v, q, ?_, p2, p3, p5, fun z => absurd z hf2⟩
    have hq : ¬ q.1 12 = -1 := by rw [(p3.2 hf2).1]; exact hf2
    have e2 : f_R_every_5 N gm N v q = some (v, q) := by
      have : ∀ g, g = fv + 1 → f_R_every_5 N gm g v q = some (v, q) := fun g hg => by
        rw [hg, f_R_every_5, if_neg hq, zg_01 (p5 trivial), ob]
      exact this N hfv
    unfold f_R_every
    rw [p1, ob]
    exact e2
theorem all_dead (hen : en ≤ 400) (hN : 500 < N) (DT : DeadL rd xx a en tx (f_LR_readAtom N dp rd a0)) : DeadL rd xx a en tx (f_LR_readAll N dp rd a0) := by
  intro K i t fl n s hf H
  obtain ⟨L, s', c1, H1, S1⟩ := DT K i t fl n s hf H
  obtain ⟨fv, hfv⟩ : ∃ fv, N = fv + 1 := ⟨N - 1, by omega⟩
  have e1 : f_LR_readAll_10 N dp rd a0 N (iN (en - i)) L = some L := by
    have : ∀ g, g = fv + 1 → f_LR_readAll_10 N dp rd a0 g (iN (en - i)) L = some L := fun g hg => by rw [hg]; exact all_10_dead H1 hen hN hf fv _
    exact this N hfv
  refine ⟨L, s', ?_, H1, S1⟩
  unfold f_LR_readAll
  rw [H.A.fc, ob, c1, ob, H1.A.fc, ob, left_2 H1, ob]
  exact e1
theorem any_10_dead (H : LRS K rd xx a en tx i t fl n s) (hen : en ≤ 400) (hN : 500 < N) (hf : fl ≠ -1) (fuel : Nat) (z : Int32) : f_LR_readAny_10 N dp rd a0 (fuel + 1) z K = some K := by
  rw [f_LR_readAny_10]
  by_cases h : z ≤ 0
  · rw [if_pos h]
  · rw [if_neg h, H.A.fc, ob, tw_dead H hen hN hf (by decide), ob, if_pos rfl]
theorem any_step {x1 v : Int32} (h1 : x1 = 0 ∨ x1 = 1) (h2 : v = 0 ∨ v = 1) (g : Nat) (q : Rho) : (if x1 = 0 then (if v = 0 then (f_R_some_40 N gm (f_R_some_5 N gm g) 0 q) else (f_R_some_35 N gm (f_R_some_5 N gm g) q)) else (f_R_some_35 N gm (f_R_some_5 N gm g) q)) = f_R_some_5 N gm g (x1 ||| v) q ∧ ((x1 ||| v) = 0 ∨ (x1 ||| v) = 1) := by
  rcases h1 with rfl | rfl <;> rcases h2 with rfl | rfl <;> exact ⟨rfl, by decide⟩
theorem any_loop (hen : en ≤ 400) (hN : 500 < N) (hhA : 1 ≤ hA) (AT : SimL rd xx a en tx hA D True (f_LR_readAll N dp rd a0) (f_R_every N gm)) : ∀ (left : Nat) (K : Mem) (i t n s s0 fuel : Nat), LRS K rd xx a en tx i t (-1) n s → s ≤ i → s0 ≤ s → en ≤ i + left → left ≤ 400 → left < fuel → (∀ F, ∃ v, Seg F (m_iv K (a + 4)) (m_iv K (a + 5)) s0 s (hA + 1) v) →
    ∃ L i' t' f' s', f_LR_readAny_10 N dp rd a0 fuel (iN left) K = some L ∧ LRS L rd xx a en tx i' t' f' n s' ∧ St rd a K L s s' ∧ i ≤ i' ∧ (f' = -1 → s' + i ≤ s + i' ∧ ∀ F, ∃ v, Seg F (m_iv L (a + 4)) (m_iv L (a + 5)) s0 s' (hA + 1) v) ∧ ∀ r mf v1, TXm r tx en → ML r tx en i → Bz r → r.1 13 = iN D → left < mf → (v1 = 0 ∨ v1 = 1) → Seg (fcR r) (m_iv K (a + 4)) (m_iv K (a + 5)) s0 s (hA + 1) v1 → ∃ v q, f_R_some_5 N gm mf v1 r = some (v, q) ∧ Lx r q ∧ MS q tx en i' f' D ∧ (v = 0 ∨ v = 1) ∧ (f' = -1 → Seg (fcR r) (m_iv L (a + 4)) (m_iv L (a + 5)) s0 s' (hA + 1) v) := by
  intro left
  induction left with
  | zero =>
    intro K i t n s s0 fuel H hs hs0 hei hl hf hv
    obtain ⟨fu, rfl⟩ : ∃ fu, fuel = fu + 1 := ⟨fuel - 1, by omega⟩
    have hi := H.ie
    refine ⟨K, i, t, -1, s, by rw [f_LR_readAny_10, if_pos (show iN 0 ≤ (0 : Int32) by decide)], H, St.refl K, Nat.le_refl _, fun _ => ⟨Nat.le_refl _, hv⟩, fun r mf v1 hT m _ _ hmf hv01 hv1 => ?_⟩
    obtain ⟨mg, rfl⟩ : ∃ mg, mf = mg + 1 := ⟨mf - 1, by omega⟩
    obtain ⟨q, m1, m2, m3⟩ := has_n (N := N) (w := 59) hT hen hN m (by decide) (fun z => by have := wAt_lt z hi (by decide); omega)
    exact ⟨v1, q, by rw [f_R_some_5, if_pos m.1, m1, ob, if_pos rfl, zg_01 hv01, ob], m2, MS.l m3, hv01, fun _ => hv1⟩
  | succ left ih =>
    intro K i t n s s0 fuel H hs hs0 hei hl hf hv
    obtain ⟨fu, rfl⟩ : ∃ fu, fuel = fu + 1 := ⟨fuel - 1, by omega⟩
    have hi := H.ie
    rw [f_LR_readAny_10, if_neg (show ¬ iN (left + 1) ≤ (0 : Int32) from iN_nle (k := 0) (by omega) (by omega)), H.A.fc, ob]
    rcases takeWord_2 (N := N) H.A H.x hen hN H.C (w := 17) (by decide) with ⟨-, h1, L1, l1, l2, l3⟩ | ⟨h1, l1⟩
    · have hgt := lw_gt hi (w := 17) (by decide) h1
      have H1 := H.rq l2 l3
      obtain ⟨L2, i2, t2, f2, s2, c1, H2, S2, hi2, c2, c3⟩ := AT L1 _ _ n s H1 (by omega)
      obtain ⟨L3, s3, c4, H3, S3, c5⟩ := addStep_cl H2 hen 14 0
      have cl : (if ((1 : Int32), L1).1 = 0 then some ((1 : Int32), L1).2 else (ck ((1 : Int32), L1).2 2 rd).bind fun _ => (f_LR_readAll N dp rd a0 ((1 : Int32), L1).2).bind fun z4 => (gR z4 2 rd 6).bind fun v5 => (ck z4 1 v5).bind fun _ => (f_Law_addStep v5 14 0 z4).bind fun z6 => f_LR_readAny_10 N dp rd a0 fu (iN (left + 1) + (-1)) z6) = f_LR_readAny_10 N dp rd a0 fu (iN left) L3 := by
        rw [if_neg (show ¬ ((1 : Int32), L1).1 = 0 from i1n)]
        dsimp only
        rw [H1.A.fc, ob, c1, ob, H2.g6, ob, H2.W.c0, ob, c4, ob, iN_p]
      have SS : St rd a K L3 s s3 := ((H.st l2).trans S2).trans S3
      have mdl : ∀ r mg v1, TXm r tx en → ML r tx en i → Bz r → r.1 13 = iN D → (v1 = 0 ∨ v1 = 1) → ∃ v q, f_R_some_5 N gm (mg + 1) v1 r = f_R_some_5 N gm mg (v1 ||| v) q ∧ ((v1 ||| v) = 0 ∨ (v1 ||| v) = 1) ∧ Lx r q ∧ MS q tx en i2 f2 D ∧ (f2 = -1 → Seg (fcR r) (m_iv L2 (a + 4)) (m_iv L2 (a + 5)) s s2 hA v) := fun r mg v1 hT m z d hv01 => by
        obtain ⟨q0, m1, m2, m3, m4⟩ := has_y (N := N) (w := 59) hT hen hN m (by decide) h1
        obtain ⟨v, q, p1, p2, p3, p5, p4⟩ := c3 q0 (hT.lx m2) (ML.at (lw_b hi).2 m3 m4) (z.lx m2) ((m2.2 13 (by decide) (by decide)).trans d)
        obtain ⟨st1, st2⟩ := any_step (N := N) (gm := gm) hv01 (p5 trivial) mg q
        refine ⟨v, q, ?_, st2, m2.trans p2, p3, fun hf2 => by rw [← fcR_lx m2]; exact p4 hf2⟩
        rw [f_R_some_5, if_pos m.1, m1, ob, if_neg (show ¬ ((1 : Int32), q0).1 = 0 from i1n)]
        dsimp only
        rw [p1, ob]
        exact st1
      rw [l1, ob, cl]
      by_cases hf2 : f2 = -1
      · subst hf2
        obtain ⟨d1, d2, d3⟩ := c2 rfl
        have hi2e := H2.ie
        have hss := S2.2.2.1
        obtain ⟨rfl, d4, d5⟩ := c5 (by omega)
        have comb : ∀ F v1 v2, Seg F (m_iv K (a + 4)) (m_iv K (a + 5)) s0 s (hA + 1) v1 → Seg F (m_iv L2 (a + 4)) (m_iv L2 (a + 5)) s s2 hA v2 → Seg F (m_iv L3 (a + 4)) (m_iv L3 (a + 5)) s0 (s2 + 1) (hA + 1) (v1 ||| v2) := fun F v1 v2 g1 g2 => by
          have g3 := Seg.bin (h := hA + 1) (SS.lo (Nat.le_refl _) g1) (S3.lo (Nat.le_refl _) g2) (by rw [d4]; decide) (Nat.le_refl _) (Nat.le_refl _)
          rw [d4, jn14] at g3
          exact g3
        obtain ⟨L, i', t', f', s', e1, e2, e3, e4, e5, e6⟩ := ih L3 i2 t2 n (s2 + 1) s0 fu H3 (by omega) (by omega) (by omega) (by omega) (by omega) (fun F => by
          obtain ⟨v1, g1⟩ := hv F
          obtain ⟨v2, g2⟩ := d3 F
          exact ⟨_, comb F v1 v2 g1 g2⟩)
        refine ⟨L, i', t', f', s', e1, e2, SS.trans e3, by omega, fun hf' => ⟨by have := (e5 hf').1; omega, (e5 hf').2⟩, fun r mf v1 hT m z d hmf hv01 hv1 => ?_⟩
        obtain ⟨mg, rfl⟩ : ∃ mg, mf = mg + 1 := ⟨mf - 1, by omega⟩
        obtain ⟨v, q, p1, p5, p2, p3, p4⟩ := mdl r mg v1 hT m z d hv01
        obtain ⟨v', q', o1, o2, o3, o5, o4⟩ := e6 q mg (v1 ||| v) (hT.lx p2) (p3.1 rfl) (z.lx p2) ((p2.2 13 (by decide) (by decide)).trans d) (by omega) p5 (by rw [fcR_lx p2]; exact comb _ _ _ hv1 (p4 rfl))
        exact ⟨v', q', p1.trans o1, p2.trans o2, o3, o5, fun hf' => by rw [← fcR_lx p2]; exact o4 hf'⟩
      · obtain ⟨fv, rfl⟩ : ∃ fv, fu = fv + 1 := ⟨fu - 1, by omega⟩
        refine ⟨L3, i2, t2, f2, s3, any_10_dead H3 hen hN hf2 fv _, H3, SS, by omega, fun z => absurd z hf2, fun r mf v1 hT m z d hmf hv01 hv1 => ?_⟩
        obtain ⟨mg, rfl⟩ : ∃ mg, mf = mg + 1 := ⟨mf - 1, by omega⟩
        obtain ⟨mh, rfl⟩ : ∃ mh, mg = mh + 1 := ⟨mg - 1, by omega⟩
        obtain ⟨v, q, p1, p5, p2, p3, -⟩ := mdl r (mh + 1) v1 hT m z d hv01
        refine ⟨v1 ||| v, q, ?_, p2, p3, p5, fun z => absurd z hf2⟩
        have hq : ¬ q.1 12 = -1 := by rw [(p3.2 hf2).1]; exact hf2
        rw [p1, f_R_some_5, if_neg hq, zg_01 p5, ob]
    · have cl : (if ((0 : Int32), K).1 = 0 then some ((0 : Int32), K).2 else (ck ((0 : Int32), K).2 2 rd).bind fun _ => (f_LR_readAll N dp rd a0 ((0 : Int32), K).2).bind fun z4 => (gR z4 2 rd 6).bind fun v5 => (ck z4 1 v5).bind fun _ => (f_Law_addStep v5 14 0 z4).bind fun z6 => f_LR_readAny_10 N dp rd a0 fu (iN (left + 1) + (-1)) z6) = some K := if_pos rfl
      rw [l1, ob, cl]
      refine ⟨K, i, t, -1, s, rfl, H, St.refl K, Nat.le_refl _, fun _ => ⟨Nat.le_refl _, hv⟩, fun r mf v1 hT m _ _ hmf hv01 hv1 => ?_⟩
      obtain ⟨mg, rfl⟩ : ∃ mg, mf = mg + 1 := ⟨mf - 1, by omega⟩
      obtain ⟨q, m1, m2, m3⟩ := has_n (N := N) (w := 59) hT hen hN m (by decide) (fun z => h1 ⟨rfl, z⟩)
      exact ⟨v1, q, by rw [f_R_some_5, if_pos m.1, m1, ob, if_pos rfl, zg_01 hv01, ob], m2, MS.l m3, hv01, fun _ => hv1⟩
theorem any_sim (hen : en ≤ 400) (hN : 500 < N) (hhA : 1 ≤ hA) (AT : SimL rd xx a en tx hA D True (f_LR_readAll N dp rd a0) (f_R_every N gm)) : SimL rd xx a en tx (hA + 1) D True (f_LR_readAny N dp rd a0) (f_R_some N gm) := by
  intro K i t n s H hs
  obtain ⟨L2, i2, t2, f2, s2, c1, H2, S2, hi2, c2, c3⟩ := AT K i t n s H hs
  have hi2e := H2.ie
  unfold f_LR_readAny
  rw [H.A.fc, ob, c1, ob, H2.A.fc, ob, left_2 H2, ob]
  by_cases hf2 : f2 = -1
  · subst hf2
    obtain ⟨d1, d2, d3⟩ := c2 rfl
    obtain ⟨L, i', t', f', s', e1, e2, e3, e4, e5, e6⟩ := any_loop (N := N) (D := D) (dp := dp) (a0 := a0) (gm := gm) hen hN hhA AT (en - i2) L2 i2 t2 n s2 s N H2 (by omega) S2.2.2.1 (by omega) (by omega) (by omega) (fun F => by
      obtain ⟨v, g⟩ := d3 F
      exact ⟨v, g.mono (Nat.le_succ _)⟩)
    refine ⟨L, i', t', f', s', e1, e2, S2.trans e3, by omega, fun hf' => ⟨by have := (e5 hf').1; omega, by omega, (e5 hf').2⟩, fun r hT m z d => ?_⟩
    obtain ⟨v, q, p1, p2, p3, p5, p4⟩ := c3 r hT m z d
    obtain ⟨v', q', o1, o2, o3, o5, o4⟩ := e6 q N v (hT.lx p2) (p3.1 rfl) (z.lx p2) ((p2.2 13 (by decide) (by decide)).trans d) (by omega) (p5 trivial) (by rw [fcR_lx p2]; exact (p4 rfl).mono (Nat.le_succ _))
    refine ⟨v', q', ?_, p2.trans o2, o3, fun _ => o5, fun hf' => by rw [← fcR_lx p2]; exact o4 hf'⟩
    unfold f_R_some
    rw [p1, ob]
    exact o1
  · obtain ⟨fv, hfv⟩ : ∃ fv, N = fv + 1 := ⟨N - 1, by omega⟩
    have e1 : f_LR_readAny_10 N dp rd a0 N (iN (en - i2)) L2 = some L2 := by
      have : ∀ g, g = fv + 1 → f_LR_readAny_10 N dp rd a0 g (iN (en - i2)) L2 = some L2 := fun g hg => by rw [hg]; exact any_10_dead H2 hen hN hf2 fv _
      exact this N hfv
    refine ⟨L2, i2, t2, f2, s2, e1, H2, S2, hi2, fun z => absurd z hf2, fun r hT m z d => ?_⟩
    obtain ⟨v, q, p1, p2, p3, p5, -⟩ := c3 r hT m z d
    refine ⟨v, q, ?_, p2, p3, p5, fun z => absurd z hf2⟩
    have hq : ¬ q.1 12 = -1 := by rw [(p3.2 hf2).1]; exact hf2
    have e2 : f_R_some_5 N gm N v q = some (v, q) := by
      have : ∀ g, g = fv + 1 → f_R_some_5 N gm g v q = some (v, q) := fun g hg => by
        rw [hg, f_R_some_5, if_neg hq, zg_01 (p5 trivial), ob]
      exact this N hfv
    unfold f_R_some
    rw [p1, ob]
    exact e2
theorem any_dead (hen : en ≤ 400) (hN : 500 < N) (DT : DeadL rd xx a en tx (f_LR_readAll N dp rd a0)) : DeadL rd xx a en tx (f_LR_readAny N dp rd a0) := by
  intro K i t fl n s hf H
  obtain ⟨L, s', c1, H1, S1⟩ := DT K i t fl n s hf H
  obtain ⟨fv, hfv⟩ : ∃ fv, N = fv + 1 := ⟨N - 1, by omega⟩
  have e1 : f_LR_readAny_10 N dp rd a0 N (iN (en - i)) L = some L := by
    have : ∀ g, g = fv + 1 → f_LR_readAny_10 N dp rd a0 g (iN (en - i)) L = some L := fun g hg => by rw [hg]; exact any_10_dead H1 hen hN hf fv _
    exact this N hfv
  refine ⟨L, s', ?_, H1, S1⟩
  unfold f_LR_readAny
  rw [H.A.fc, ob, c1, ob, H1.A.fc, ob, left_2 H1, ob]
  exact e1
end Al
