theorem lp_zero {σ : Type} (f : Nat → σ → σ) (k : Nat) (z : σ) : lp f 0 k z = z := rfl
theorem lp_succ {σ : Type} (f : Nat → σ → σ) (j k : Nat) (z : σ) : lp f (j + 1) k z = lp f j (k + 1) (f k z) := rfl
section Sg
variable {F : Nat → Int32} {s u s2 u2 : Nat → Int32} {i k e h h1 h2 : Nat} {v v1 v2 w : Int32}
theorem Seg.push (hs : s i < 9) : Seg F s u i (i + 1) 1 (if s i = 0 then u i else stV F (s i)) := by
  refine ⟨Nat.le_succ i, fun top o ht => ⟨up1 o top (if s i = 0 then u i else stV F (s i)), ?_, fun j hj => up1_ne (by omega), up1_same _ _ _⟩⟩
  rw [show i + 1 - i = 1 by omega]
  show evL F (s i) (u i) (top, o) = _
  unfold evL
  rw [if_pos ⟨hs, show top < 32 by omega⟩]
theorem Seg.bin (a : Seg F s u i k h1 v1) (b : Seg F s u k e h2 v2) (hs : 9 < s e) (g1 : h1 ≤ h) (g2 : h2 + 1 ≤ h) : Seg F s u i (e + 1) h (jnV (s e) v1 v2) := by
  obtain ⟨a0, a1⟩ := a
  obtain ⟨b0, b1⟩ := b
  refine ⟨by omega, fun top o ht => ?_⟩
  obtain ⟨o1, c1, c2, c3⟩ := a1 top o (by omega)
  obtain ⟨o2, d1, d2, d3⟩ := b1 (top + 1) o1 (by omega)
  refine ⟨up1 o2 top (jnV (s e) v1 v2), ?_, fun j hj => ?_, up1_same _ _ _⟩
  · have e1 : lp (fun k z => evL F (s k) (u k) z) (e + 1 - i) i (top, o) = evL F (s e) (u e) (lp (fun k z => evL F (s k) (u k) z) (e - k) k (lp (fun k z => evL F (s k) (u k) z) (k - i) i (top, o))) := by
      rw [show e + 1 - i = ((k - i) + (e - k)) + 1 by omega, lp_snoc, lp_split, show i + (k - i) = k by omega, show i + ((k - i) + (e - k)) = e by omega]
    rw [e1, c1, d1]
    unfold evL
    have n1 : ¬ (s e < 9 ∧ top + 1 + 1 < 32) := fun q => Int32.lt_irrefl (Int32.lt_trans hs q.1)
    have n2 : ¬ (s e = 9 ∧ 1 ≤ top + 1 + 1) := fun q => by
      rw [q.1] at hs
      exact Int32.lt_irrefl hs
    have n3 : 9 < s e ∧ 2 ≤ top + 1 + 1 := ⟨hs, by omega⟩
    dsimp only
    rw [if_neg n1, if_neg n2, if_pos n3]
    rw [show top + 1 + 1 - 1 = top + 1 by omega, show top + 1 + 1 - 2 = top by omega, d2 top (by omega), c3, d3]
  · rw [up1_ne (by omega), d2 j (by omega), c2 j hj]
theorem Seg.neg (a : Seg F s u i e h v) (hs : s e = 9) : Seg F s u i (e + 1) h (1 - v) := by
  obtain ⟨a0, a1⟩ := a
  refine ⟨by omega, fun top o ht => ?_⟩
  obtain ⟨o1, c1, c2, c3⟩ := a1 top o ht
  refine ⟨up1 o1 top (1 - v), ?_, fun j hj => ?_, up1_same _ _ _⟩
  · rw [show e + 1 - i = (e - i) + 1 by omega, lp_snoc, c1, show i + (e - i) = e by omega]
    unfold evL
    have n1 : ¬ (s e < 9 ∧ top + 1 < 32) := fun q => by
      rw [hs] at q
      exact Int32.lt_irrefl q.1
    have n2 : s e = 9 ∧ 1 ≤ top + 1 := ⟨hs, by omega⟩
    dsimp only
    rw [if_neg n1, if_pos n2, show top + 1 - 1 = top by omega, c3]
  · rw [up1_ne (by omega), c2 j hj]
theorem Seg.cg (a : Seg F s u i e h v) (hs : ∀ k, i ≤ k → k < e → s2 k = s k ∧ u2 k = u k) : Seg F s2 u2 i e h v := by
  obtain ⟨a0, a1⟩ := a
  refine ⟨a0, fun top o ht => ?_⟩
  have key : ∀ (j k : Nat) (z : Nat × (Nat → Int32)), i ≤ k → k + j ≤ e → lp (fun k z => evL F (s2 k) (u2 k) z) j k z = lp (fun k z => evL F (s k) (u k) z) j k z := by
    intro j
    induction j with
    | zero => intro k z _ _; rw [lp_zero, lp_zero]
    | succ j ih =>
      intro k z h1 h2
      obtain ⟨g1, g2⟩ := hs k h1 (by omega)
      rw [lp_succ, lp_succ, g1, g2]
      exact ih (k + 1) _ (by omega) (by omega)
  obtain ⟨o1, c1, c2, c3⟩ := a1 top o ht
  exact ⟨o1, by rw [key _ _ _ (Nat.le_refl _) (by omega), c1], c2, c3⟩
theorem Seg.mono (a : Seg F s u i e h v) (g : h ≤ h1) : Seg F s u i e h1 v := ⟨a.1, fun top o ht => a.2 top o (by omega)⟩
theorem Seg.uq (a : Seg F s u i e h v) (b : Seg F s u i e h w) (hh : h ≤ 32) : v = w := by
  obtain ⟨o1, c1, -, c3⟩ := a.2 0 (fun _ => 0) (by omega)
  obtain ⟨o2, d1, -, d3⟩ := b.2 0 (fun _ => 0) (by omega)
  rw [c1] at d1
  have e : o1 = o2 := (Prod.mk.inj d1).2
  rw [← c3, ← d3, e]
end Sg
section Ls
variable {N en i j k p t w b rd xx a n s s' s'' : Nat} {tx : Nat → Int32} {K L M : Mem} {f f' v u : Int32} {i' t' : Nat}
/-- the class's reader of a law, and the law so far: n lines, s steps -/
def LRS (K : Mem) (rd xx a en : Nat) (tx : Nat → Int32) (i t : Nat) (f : Int32) (n s : Nat) : Prop := (RS_2 K rd xx ∧ m_rv K rd 6 = some a ∧ LawShape K a en ∧ (a + 6 ≤ rd ∨ rd < a) ∧ (xx < a ∨ a + 6 ≤ xx) ∧ m_iv K xx = tx) ∧ CS K rd en tx i t f ∧ m_iv K a 0 = iN n ∧ m_iv K a 5 = iN s ∧ s ≤ en ∧ n ≤ 12
/-- more steps, all else as it was -/
def St (rd a : Nat) (K L : Mem) (s s' : Nat) : Prop := (m_sz L = m_sz K ∧ m_kd L = m_kd K ∧ m_rv L = m_rv K ∧ m_lv L = m_lv K) ∧ (∀ b, b ≠ rd → (b < a ∨ a + 6 ≤ b) → m_iv L b = m_iv K b) ∧ s ≤ s' ∧ (m_iv L (a + 1) = m_iv K (a + 1) ∧ m_iv L (a + 2) = m_iv K (a + 2)) ∧ ∀ k, k < s → m_iv L (a + 4) k = m_iv K (a + 4) k ∧ m_iv L (a + 5) k = m_iv K (a + 5) k
theorem St.refl (K : Mem) : St rd a K K s s := ⟨⟨rfl, rfl, rfl, rfl⟩, fun _ _ _ => rfl, Nat.le_refl _, ⟨rfl, rfl⟩, fun _ _ => ⟨rfl, rfl⟩⟩
theorem St.trans (h : St rd a K L s s') (g : St rd a L M s' s'') : St rd a K M s s'' := by
  obtain ⟨⟨h1, h2, h3, h4⟩, h5, h6, ⟨h7, h8⟩, h9⟩ := h
  obtain ⟨⟨g1, g2, g3, g4⟩, g5, g6, ⟨g7, g8⟩, g9⟩ := g
  exact ⟨⟨g1.trans h1, g2.trans h2, g3.trans h3, g4.trans h4⟩, fun b q1 q2 => (g5 b q1 q2).trans (h5 b q1 q2), Nat.le_trans h6 g6, ⟨g7.trans h7, g8.trans h8⟩, fun k hk => ⟨(g9 k (by omega)).1.trans (h9 k hk).1, (g9 k (by omega)).2.trans (h9 k hk).2⟩⟩
theorem LRS.A (H : LRS K rd xx a en tx i t f n s) : RS_2 K rd xx := H.1.1
theorem LRS.x (H : LRS K rd xx a en tx i t f n s) : m_iv K xx = tx := H.1.2.2.2.2.2
theorem LRS.C (H : LRS K rd xx a en tx i t f n s) : CS K rd en tx i t f := H.2.1
theorem LRS.W (H : LRS K rd xx a en tx i t f n s) : LawShape K a en := H.1.2.2.1
theorem LRS.ie (H : LRS K rd xx a en tx i t f n s) : i ≤ en := H.2.1.2.2.2.2.2.1
theorem LRS.g6 (H : LRS K rd xx a en tx i t f n s) : gR K 2 rd 6 = some a := (gR_k (ci := 2) H.1.1.1).trans H.1.2.1
theorem LRS.st (H : LRS K rd xx a en tx i t f n s) (h : Rq rd K L) : St rd a K L s s := by
  have hd := H.1.2.2.2.1
  refine ⟨h.1, fun b h1 _ => h.2 b h1, Nat.le_refl _, ⟨h.2 _ (by omega), h.2 _ (by omega)⟩, fun k _ => ⟨by rw [h.2 _ (by omega)], by rw [h.2 _ (by omega)]⟩⟩
theorem LRS.rq (H : LRS K rd xx a en tx i t f n s) (h : Rq rd K L) (C : CS L rd en tx i' t' f') : LRS L rd xx a en tx i' t' f' n s := by
  obtain ⟨⟨a1, a2, a3, a4, a5, a6⟩, c, n0, s0, s1, n1⟩ := H
  refine ⟨⟨a1.q h, by rw [h.1.2.2.1]; exact a2, ?_, a4, a5, (h.2 xx (fun e => a1.2.2.2 e.symm)).trans a6⟩, C, by rw [h.2 a (by omega)]; exact n0, by rw [h.2 a (by omega)]; exact s0, s1, n1⟩
  unfold LawShape at a3 ⊢
  rw [h.1.2.1, h.1.2.2.1]
  exact a3
theorem addStep_cl (H : LRS K rd xx a en tx i t f n s) (hen : en ≤ 400) (v u : Int32) : ∃ L s', f_Law_addStep a v u K = some L ∧ LRS L rd xx a en tx i t f n s' ∧ St rd a K L s s' ∧ (s < en → s' = s + 1 ∧ m_iv L (a + 4) s = v ∧ m_iv L (a + 5) s = u) := by
  obtain ⟨⟨a1, a2, a3, a4, a5, a6⟩, c, n0, s0, s1, n1⟩ := id H
  unfold f_Law_addStep
  rw [a3.i0, ob, s0, a3.g3, ob, a3.l4, ob]
  by_cases h : s < en
  · have W1 : LawShape (m_setI K (a + 4) s v) a en := a3
    have W2 : LawShape (m_setI (m_setI K (a + 4) s v) (a + 5) s u) a en := a3
    have e5 : m_iv (m_setI K (a + 4) s v) a 5 = iN s := by rw [iv_ne (by omega)]; exact s0
    have e6 : m_iv (m_setI (m_setI K (a + 4) s v) (a + 5) s u) a 5 = iN s := by rw [iv_ne (by omega)]; exact e5
    refine ⟨m_setI (m_setI (m_setI K (a + 4) s v) (a + 5) s u) a 5 (iN (s + 1)), s + 1, ?_, ?_, ?_, fun _ => ⟨rfl, ?_, ?_⟩⟩
    · rw [if_neg (iN_nle h (by omega)), ob, a3.g4, ob, a3.l5, ob, if_neg (iN_nle h (by omega)), ob, ob, a3.s4 h, ob, W1.g4, ob, W1.i0, ob, e5, W1.s5 h, ob, W2.i0, ob, e6, W2.p0, ob, iN_s]
    · refine ⟨⟨a1, a2, a3, a4, a5, ?_⟩, c.of ?_, ?_, ?_, by omega, n1⟩
      · rw [iv_ne (by omega), iv_ne (by omega), iv_ne (by omega)]; exact a6
      · rw [iv_ne (by omega), iv_ne (by omega), iv_ne (by omega)]
      · rw [iv_same, up1_ne (by decide), iv_ne (by omega), iv_ne (by omega)]; exact n0
      · rw [iv_same, up1_same]
    · refine ⟨⟨rfl, rfl, rfl, rfl⟩, fun b h1 h2 => ?_, Nat.le_succ s, ⟨?_, ?_⟩, fun k hk => ⟨?_, ?_⟩⟩
      · rw [iv_ne (by omega), iv_ne (by omega), iv_ne (by omega)]
      · rw [iv_ne (by omega), iv_ne (by omega), iv_ne (by omega)]
      · rw [iv_ne (by omega), iv_ne (by omega), iv_ne (by omega)]
      · rw [iv_ne (by omega), iv_ne (by omega), iv_same, up1_ne (by omega)]
      · rw [iv_ne (by omega), iv_same, up1_ne (by omega), iv_ne (by omega)]
    · rw [iv_ne (by omega), iv_ne (by omega), iv_same, up1_same]
    · rw [iv_ne (by omega), iv_same, up1_same]
  · refine ⟨K, s, ?_, H, St.refl K, fun q => absurd q h⟩
    rw [if_pos (iN_yle (by omega) (by omega))]
/-- the class's part and the model's do the same -/
def SimL (rd xx a en : Nat) (tx : Nat → Int32) (h D : Nat) (B : Prop) (f : Mem → Option Mem) (g : Rho → Option (Int32 × Rho)) : Prop :=
  ∀ K i t n s, LRS K rd xx a en tx i t (-1) n s → s ≤ i → ∃ L i' t' f' s', f K = some L ∧ LRS L rd xx a en tx i' t' f' n s' ∧ St rd a K L s s' ∧ i ≤ i' ∧ (f' = -1 → s' + i ≤ s + i' ∧ i < i' ∧ ∀ F, ∃ v, Seg F (m_iv L (a + 4)) (m_iv L (a + 5)) s s' h v) ∧ ∀ r, TXm r tx en → ML r tx en i → Bz r → r.1 13 = iN D → ∃ v q, g r = some (v, q) ∧ Lx r q ∧ MS q tx en i' f' D ∧ (B → v = 0 ∨ v = 1) ∧ (f' = -1 → Seg (fcR r) (m_iv L (a + 4)) (m_iv L (a + 5)) s s' h v)
def DeadL (rd xx a en : Nat) (tx : Nat → Int32) (f : Mem → Option Mem) : Prop :=
  ∀ K i t fl n s, fl ≠ -1 → LRS K rd xx a en tx i t fl n s → ∃ L s', f K = some L ∧ LRS L rd xx a en tx i t fl n s' ∧ St rd a K L s s'
theorem fcR_lx {r q : Rho} (h : Lx r q) : fcR q = fcR r := by
  funext k
  unfold fcR
  rw [h.1, h.2 15 (by decide) (by decide), h.2 16 (by decide) (by decide)]
theorem Bz.lx {r q : Rho} (z : Bz r) (h : Lx r q) : Bz q := by
  unfold Bz at z ⊢
  rw [h.2 15 (by decide) (by decide), h.2 16 (by decide) (by decide)]
  exact z
theorem MD.mono {q : Rho} {D E : Nat} (h : MD q f D) (hE : E ≤ D) : MD q f E := ⟨h.1, by obtain ⟨j, h1, h2⟩ := h.2; exact ⟨j, by omega, h2⟩⟩
theorem MS.mono {q : Rho} {D E : Nat} (h : MS q tx en i f D) (hE : E ≤ D) : MS q tx en i f E := ⟨h.1, fun q => (h.2 q).mono hE⟩
end Ls
