section Ln
variable {N en i j k p t w b rd xx a n s s' s0 : Nat} {tx : Nat → Int32} {K L M : Mem} {f fl v u g : Int32} {r q : Rho} {ed : Nat → Nat} {F : Nat → Int32}
theorem Seg.lt {sp up : Nat → Int32} {e h : Nat} (a : Seg F sp up i e h v) (hh : h ≤ 32) : i < e := by
  refine Nat.lt_of_le_of_ne a.1 fun he => ?_
  obtain ⟨o1, c1, -⟩ := a.2 0 (fun _ => 0) (by omega)
  rw [he, Nat.sub_self, lp_zero] at c1
  have := (Prod.mk.inj c1).1
  omega
/-- what the condition of the k-th line comes to -/
def CV (K : Mem) (a : Nat) (ed : Nat → Nat) (F : Nat → Int32) (k : Nat) (v : Int32) : Prop := (stA ed k = ed k ∧ v = 1) ∨ (stA ed k < ed k ∧ Seg F (m_iv K (a + 4)) (m_iv K (a + 5)) (stA ed k) (ed k) 20 v)
theorem CV.uq (h : CV K a ed F k v) (g : CV K a ed F k u) : v = u := by
  rcases h with ⟨h1, h2⟩ | ⟨h1, h2⟩
  · rcases g with ⟨g1, g2⟩ | ⟨g1, g2⟩
    · rw [h2, g2]
    · omega
  · rcases g with ⟨g1, g2⟩ | ⟨g1, g2⟩
    · omega
    · exact Seg.uq h2 g2 (by decide)
def LL (K : Mem) (a n s : Nat) (ed : Nat → Nat) : Prop := (∀ k, k < n → m_iv K (a + 2) k = iN (ed k) ∧ ed k ≤ s ∧ nx (m_iv K (a + 1) k) 32 ∧ ∀ F, ∃ v, CV K a ed F k v) ∧ s = stA ed n
def FR (rd a : Nat) (K L : Mem) : Prop := (m_sz L = m_sz K ∧ m_kd L = m_kd K ∧ m_rv L = m_rv K ∧ m_lv L = m_lv K) ∧ ∀ b, b ≠ rd → (b < a ∨ a + 6 ≤ b) → m_iv L b = m_iv K b
theorem FR.refl (K : Mem) : FR rd a K K := ⟨⟨rfl, rfl, rfl, rfl⟩, fun _ _ _ => rfl⟩
theorem FR.trans (h : FR rd a K L) (g : FR rd a L M) : FR rd a K M := ⟨⟨g.1.1.trans h.1.1, g.1.2.1.trans h.1.2.1, g.1.2.2.1.trans h.1.2.2.1, g.1.2.2.2.trans h.1.2.2.2⟩, fun b q1 q2 => (g.2 b q1 q2).trans (h.2 b q1 q2)⟩
theorem St.fr (h : St rd a K L s s') : FR rd a K L := ⟨h.1, h.2.1⟩
theorem Rq.fr (h : Rq rd K L) : FR rd a K L := ⟨h.1, fun b h1 _ => h.2 b h1⟩
theorem LL.st (h : LL K a n s ed) (g : St rd a K L s s') : (∀ k, k < n → m_iv L (a + 2) k = iN (ed k) ∧ ed k ≤ s ∧ nx (m_iv L (a + 1) k) 32 ∧ ∀ F, ∃ v, CV L a ed F k v) ∧ ∀ k, k < n → ∀ F v, CV K a ed F k v → CV L a ed F k v := by
  have key : ∀ k, k < n → ∀ F v, CV K a ed F k v → CV L a ed F k v := fun k hk F v c => by
    have := (h.1 k hk).2.1
    exact c.imp id fun c => ⟨c.1, g.lo this c.2⟩
  refine ⟨fun k hk => ?_, key⟩
  obtain ⟨h1, h2, h3, h4⟩ := h.1 k hk
  refine ⟨by rw [g.2.2.2.1.2]; exact h1, h2, by rw [g.2.2.2.1.1]; exact h3, fun F => ?_⟩
  obtain ⟨v, c⟩ := h4 F
  exact ⟨v, key k hk F v c⟩
theorem addLine_cl (H : LRS K rd xx a en tx i t fl n s) (hn : n < 12) (g : Int32) : ∃ L, f_Law_addLine a g K = some L ∧ LRS L rd xx a en tx i t fl (n + 1) s ∧ FR rd a K L ∧ m_iv L (a + 1) = up1 (m_iv K (a + 1)) n g ∧ m_iv L (a + 2) = up1 (m_iv K (a + 2)) n (iN s) ∧ m_iv L (a + 4) = m_iv K (a + 4) ∧ m_iv L (a + 5) = m_iv K (a + 5) := by
  obtain ⟨⟨a1, a2, a3, a4, a5, a6⟩, c, n0, s0, s1, n1⟩ := id H
  have W1 : LawShape (m_setI K (a + 1) n g) a en := a3
  have W2 : LawShape (m_setI (m_setI K (a + 1) n g) (a + 2) n (iN s)) a en := a3
  have e1 : m_iv (m_setI K (a + 1) n g) a = m_iv K a := iv_ne (by omega)
  have e2 : m_iv (m_setI (m_setI K (a + 1) n g) (a + 2) n (iN s)) a = m_iv K a := by rw [iv_ne (by omega), e1]
  refine ⟨m_setI (m_setI (m_setI K (a + 1) n g) (a + 2) n (iN s)) a 0 (iN (n + 1)), ?_, ⟨⟨a1, a2, a3, a4, a5, ?_⟩, c.of ?_, ?_, ?_, s1, by omega⟩, ⟨⟨rfl, rfl, rfl, rfl⟩, fun b h1 h2 => ?_⟩, ?_, ?_, ?_, ?_⟩
  · unfold f_Law_addLine
    rw [a3.i0, ob, n0, if_neg (show ¬ (12 : Int32) ≤ iN n from iN_nle (n := 12) hn (by decide)), a3.g1, ob, ob, a3.s1 hn, ob, W1.g2, ob, W1.i0, ob, e1, n0, W1.i0, ob, e1, s0, W1.s2 hn, ob, W2.i0, ob, e2, n0, W2.p0, ob, iN_s]
  · rw [iv_ne (by omega), iv_ne (by omega), iv_ne (by omega)]; exact a6
  · rw [iv_ne (by omega), iv_ne (by omega), iv_ne (by omega)]
  · rw [iv_same, up1_same]
  · rw [iv_same, up1_ne (by decide), e2]; exact s0
  · rw [iv_ne (by omega), iv_ne (by omega), iv_ne (by omega)]
  · rw [iv_ne (by omega), iv_ne (by omega), iv_same]
  · rw [iv_ne (by omega), iv_same, iv_ne (by omega)]
  · rw [iv_ne (by omega), iv_ne (by omega), iv_ne (by omega)]
  · rw [iv_ne (by omega), iv_ne (by omega), iv_ne (by omega)]
/-- the same, but for the place, the fault and what is said -/
def Lw (r q : Rho) : Prop := q.2 = r.2 ∧ ∀ j, j ≠ 11 → j ≠ 12 → j ≠ 17 → q.1 j = r.1 j
theorem Lx.tw (h : Lx r q) : Lw r q := ⟨h.1, fun j a b _ => h.2 j a b⟩
theorem Lw.trans {s : Rho} (h : Lw r q) (k : Lw q s) : Lw r s := ⟨k.1.trans h.1, fun j a b c => (k.2 j a b c).trans (h.2 j a b c)⟩
theorem Lw.s17 (r : Rho) (v : Int32) : Lw r (r_set r 17 v) := ⟨rfl, fun j _ _ c => set_f c⟩
theorem TXm.lw (h : TXm r tx en) (k : Lw r q) : TXm q tx en := by
  refine ⟨(k.2 10 (by decide) (by decide) (by decide)).trans h.1, ?_⟩
  rw [k.2 9 (by decide) (by decide) (by decide), k.1]
  exact h.2
theorem Bz.lw (z : Bz r) (h : Lw r q) : Bz q := by
  unfold Bz at z ⊢
  rw [h.2 15 (by decide) (by decide) (by decide), h.2 16 (by decide) (by decide) (by decide)]
  exact z
theorem fcR_lw (h : Lw r q) : fcR q = fcR r := by
  funext k
  unfold fcR
  rw [h.1, h.2 15 (by decide) (by decide) (by decide), h.2 16 (by decide) (by decide) (by decide)]
theorem stA_up (ed : Nat → Nat) (n s : Nat) (hk : k ≤ n) : stA (up1 ed n s) k = stA ed k := by
  unfold stA
  by_cases h : k = 0
  · rw [if_pos h, if_pos h]
  · rw [if_neg h, if_neg h, up1_ne (by omega)]
theorem line_sim (hen : en ≤ 400) (hN : 500 < N) (H : LRS K rd xx a en tx i t (-1) n s) (hs : s ≤ i) (hn : n < 12) (hL : LL K a n s ed) : ∃ L i' t' f' s', f_LR_readLine N rd K = some L ∧ LRS L rd xx a en tx i' t' f' (n + 1) s' ∧ FR rd a K L ∧ i ≤ i' ∧ (f' = -1 → s' ≤ i' ∧ LL L a (n + 1) s' (up1 ed n s') ∧ (∀ k, k < n → m_iv L (a + 1) k = m_iv K (a + 1) k ∧ ∀ F v, CV K a ed F k v → CV L a (up1 ed n s') F k v)) ∧ ∀ r, TXm r tx en → ML r tx en i → Bz r → r.1 13 = 0 → ∃ q, f_R_lawLine N r = some q ∧ Lw r q ∧ MS q tx en i' f' 0 ∧ (f' = -1 → ∀ v, CV L a (up1 ed n s') (fcR r) n v → q.1 17 = if r.1 17 = -1 then (if v = 0 then -1 else m_iv L (a + 1) n) else r.1 17) := by
  have hi := H.ie
  have hx2 := H.x
  obtain ⟨g, L1, i1, t1, f1, c1, q1, C1, hi1, d1, m1⟩ := greet_2 (N := N) H.A H.x hen hN H.C
  have H1 := H.rq q1 C1
  have hi1e := H1.ie
  have S1 := H.st q1
  unfold f_LR_readLine
  rw [H.A.fc, ob, c1, ob, H1.A.fc, ob]
  dsimp only
  -- a line's end
  have fin : ∀ {L2 : Mem} {i2 t2 s2 : Nat} {f2 : Int32}, LRS L2 rd xx a en tx i2 t2 f2 n s2 → St rd a K L2 s s2 → ∃ L, f_LR_readLine_19 N rd g L2 = some L ∧ LRS L rd xx a en tx i2 t2 f2 (n + 1) s2 ∧ FR rd a K L ∧ (nx g 32 → (∀ F, ∃ v, CV L a (up1 ed n s2) F n v) → LL L a (n + 1) s2 (up1 ed n s2)) ∧ (∀ k, k < n → m_iv L (a + 1) k = m_iv K (a + 1) k ∧ ∀ F v, CV K a ed F k v → CV L a (up1 ed n s2) F k v) ∧ m_iv L (a + 1) n = g ∧ m_iv L (a + 4) = m_iv L2 (a + 4) ∧ m_iv L (a + 5) = m_iv L2 (a + 5) := fun {L2 i2 t2 s2 f2} H2 S2 => by
    obtain ⟨L, c2, H3, F3, l1, l2, l4, l5⟩ := addLine_cl H2 hn g
    obtain ⟨hL1, hL2⟩ := hL.st S2
    have hss := S2.2.2.1
    have cvk : ∀ k, k < n → ∀ F v, CV K a ed F k v → CV L a (up1 ed n s2) F k v := fun k hk F v c => by
      have := hL2 k hk F v c
      unfold CV at this ⊢
      rw [stA_up ed n s2 (by omega), up1_ne (show k ≠ n by omega), l4, l5]
      exact this
    refine ⟨L, ?_, H3, S2.fr.trans F3, fun hg hv => ⟨fun k hk => ?_, ?_⟩, fun k hk => ⟨?_, cvk k hk⟩, by rw [l1, up1_same], l4, l5⟩
    · unfold f_LR_readLine_19
      rw [H2.g6, ob, H2.W.c0, ob, c2, ob]
    · by_cases hkn : k = n
      · rw [hkn, l1, l2, up1_same, up1_same, up1_same]
        exact ⟨rfl, Nat.le_refl _, hg, hv⟩
      · obtain ⟨h1, h2, h3, h4⟩ := hL1 k (by omega)
        obtain ⟨o1, o2, o3, o4⟩ := hL.1 k (by omega)
        rw [l1, l2, up1_ne hkn, up1_ne hkn, up1_ne hkn]
        refine ⟨h1, by omega, h3, fun F => ?_⟩
        obtain ⟨v, c⟩ := o4 F
        exact ⟨v, cvk k (by omega) F v c⟩
    · show s2 = stA (up1 ed n s2) (n + 1)
      unfold stA
      rw [if_neg (by omega), Nat.add_sub_cancel, up1_same]
    · rw [l1, up1_ne (by omega), S2.2.2.2.1.1]
  by_cases hf1 : f1 = -1
  · subst hf1
    obtain ⟨hgt1, hg⟩ := d1 rfl
    rcases takeWord_2 (N := N) H1.A H1.x hen hN H1.C (w := 6) (by decide) with ⟨-, h2, L2, l1, l2, l3⟩ | ⟨h2, l1⟩
    · have H2 := H1.rq l2 l3
      have hgt2 := lw_gt hi1e (w := 6) (by decide) h2
      have AT := atom_sim (N := N) (rd := rd) (xx := xx) (a := a) (tx := tx) hen hN 6 (Nat.le_refl _)
      have ANY := any_sim (N := N) (gm := f_R_atom N (4 + 6)) hen hN (by decide) (all_sim (N := N) hen hN (by decide) AT)
      obtain ⟨L3, i3, t3, f3, s3, c3, H3, S3, hi3, d3, m3⟩ := ANY L2 _ _ n s H2 (by omega)
      have SS : St rd a K L3 s s3 := (S1.trans (H1.st l2)).trans S3
      obtain ⟨L, c4, H4, F4, k1, k2, k3, k4, k5⟩ := fin H3 SS
      have sv : s = stA ed n := hL.2
      have cv : ∀ F v, Seg F (m_iv L3 (a + 4)) (m_iv L3 (a + 5)) s s3 17 v → CV L a (up1 ed n s3) F n v := fun F v sg => by
        refine Or.inr ⟨?_, ?_⟩
        · rw [stA_up ed n s3 (Nat.le_refl _), up1_same, ← sv]
          exact sg.lt (by decide)
        · rw [stA_up ed n s3 (Nat.le_refl _), up1_same, ← sv, k4, k5]
          exact sg.mono (by decide)
      have c3 : f_LR_readAny N (f_LR_readDeeper N 10) rd 0 L2 = some L3 := c3
      rw [l1, ob, if_neg (show ¬ ((1 : Int32), L2).1 = 0 from i1n)]
      dsimp only
      rw [H2.A.fc, ob, c3, ob]
      refine ⟨L, _, _, _, _, c4, H4, F4, by omega, fun hf => ⟨by have := (d3 hf).1; omega, k1 hg fun F => ?_, k2⟩, fun r hT m z d => ?_⟩
      · obtain ⟨v, sg⟩ := (d3 hf).2.2 F
        exact ⟨v, cv F v sg⟩
      · obtain ⟨v0, q0, p1, p2, p3, p4⟩ := m1 r hT m
        obtain ⟨q1, o1, o2, o3, o4⟩ := has_y (N := N) (w := 48) (hT.lx p2) hen hN (p3.1 rfl) (by decide) h2
        have lx := p2.trans o2
        obtain ⟨v, q, e1, e2, e3, e4, e5⟩ := m3 q1 (hT.lx lx) (ML.at (lw_b hi1e).2 o3 o4) (z.lx lx) ((lx.2 13 (by decide) (by decide)).trans d)
        have e1 : f_R_some N (f_R_atom N 10) q1 = some (v, q) := e1
        have lxq := lx.trans e2
        have q17 : q.1 17 = r.1 17 := lxq.2 17 (by decide) (by decide)
        have q012 : q0.1 12 = -1 := (p3.1 rfl).1
        have base : f_R_lawLine N r = (if v = 0 then f_R_lawLine_35 N g 0 q else f_R_lawLine_30 N g q) := by
          unfold f_R_lawLine
          rw [p1, ob]
          dsimp only
          rw [if_pos q012, o1, ob, if_neg (show ¬ ((1 : Int32), q1).1 = 0 from i1n)]
          dsimp only
          rw [e1, ob, p4 rfl]
        rw [base]
        have uq : ∀ v', f3 = -1 → CV L a (up1 ed n s3) (fcR r) n v' → v' = v := fun v' hf c => by
          refine c.uq (cv _ _ ?_)
          rw [← fcR_lx lx]
          exact e5 hf
        by_cases hf : f3 = -1
        · have mq := e3.1 hf
          by_cases hv : v = 0
          · rw [if_pos hv]
            refine ⟨q, ?_, lxq.tw, e3, fun _ v' c => ?_⟩
            · unfold f_R_lawLine_35
              rw [if_pos mq.1, if_pos rfl]
            · rw [uq v' hf c, if_pos hv, q17]
              by_cases h17 : r.1 17 = -1
              · rw [if_pos h17, h17]
              · rw [if_neg h17]
          · rw [if_neg hv]
            unfold f_R_lawLine_30 f_R_lawLine_35
            rw [if_pos mq.1, if_neg i1n, q17]
            by_cases h17 : r.1 17 = -1
            · rw [if_pos h17]
              refine ⟨_, rfl, lxq.tw.trans (Lw.s17 q g), ⟨fun hf => e3.1 hf, fun hf => e3.2 hf⟩, fun _ v' c => ?_⟩
              rw [uq v' hf c, if_neg hv, if_pos h17, set_s, k3]
            · rw [if_neg h17]
              refine ⟨q, rfl, lxq.tw, e3, fun _ v' c => ?_⟩
              rw [if_neg h17, q17]
        · have hq : ¬ q.1 12 = -1 := by rw [(e3.2 hf).1]; exact hf
          refine ⟨q, ?_, lxq.tw, e3, fun h => absurd h hf⟩
          unfold f_R_lawLine_30 f_R_lawLine_35
          rw [if_neg hq, if_neg hq]
          by_cases hv : v = 0
          · rw [if_pos hv]
          · rw [if_neg hv]
    · obtain ⟨L, c4, H4, F4, k1, k2, k3, k4, k5⟩ := fin H1 S1
      have cv : ∀ F, CV L a (up1 ed n s) F n 1 := fun F => Or.inl ⟨by rw [stA_up ed n s (Nat.le_refl _), up1_same]; exact hL.2.symm, rfl⟩
      rw [l1, ob, if_pos rfl]
      refine ⟨L, _, _, _, _, c4, H4, F4, hi1, fun hf => ⟨by omega, k1 hg fun F => ⟨1, cv F⟩, k2⟩, fun r hT m z d => ?_⟩
      obtain ⟨v0, q0, p1, p2, p3, p4⟩ := m1 r hT m
      obtain ⟨q1, o1, o2, o3⟩ := has_n (N := N) (w := 48) (hT.lx p2) hen hN (p3.1 rfl) (by decide) (fun y => h2 ⟨rfl, y⟩)
      have lx := p2.trans o2
      have q17 : q1.1 17 = r.1 17 := lx.2 17 (by decide) (by decide)
      have q012 : q0.1 12 = -1 := (p3.1 rfl).1
      have base : f_R_lawLine N r = f_R_lawLine_30 N g q1 := by
        unfold f_R_lawLine
        rw [p1, ob]
        dsimp only
        rw [if_pos q012, o1, ob, if_pos rfl, p4 rfl]
      rw [base]
      unfold f_R_lawLine_30 f_R_lawLine_35
      rw [if_pos o3.1, if_neg i1n, q17]
      by_cases h17 : r.1 17 = -1
      · rw [if_pos h17]
        refine ⟨_, rfl, lx.tw.trans (Lw.s17 q1 g), MS.l ⟨o3.1, o3.2⟩, fun _ v' c => ?_⟩
        rw [c.uq (cv _), if_neg i1n, if_pos h17, set_s, k3]
      · rw [if_neg h17]
        refine ⟨q1, rfl, lx.tw, MS.l o3, fun _ v' c => ?_⟩
        rw [if_neg h17, q17]
  · obtain ⟨L, c4, H4, F4, k1, k2, k3, k4, k5⟩ := fin H1 S1
    rw [tw_dead H1 hen hN hf1 (by decide), ob, if_pos rfl]
    refine ⟨L, _, _, _, _, c4, H4, F4, hi1, fun hf => absurd hf hf1, fun r hT m z d => ?_⟩
    obtain ⟨v0, q0, p1, p2, p3, p4⟩ := m1 r hT m
    refine ⟨q0, ?_, p2.tw, p3.mono (by decide), fun hf => absurd hf hf1⟩
    unfold f_R_lawLine
    rw [p1, ob]
    dsimp only
    rw [if_neg]
    rw [(p3.2 hf1).1]
    exact hf1
end Ln
