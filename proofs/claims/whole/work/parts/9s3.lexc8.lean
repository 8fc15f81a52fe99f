section Lc
variable {N en i j k p t w b rd xx : Nat} {tx : Nat → Int32} {K L : Mem} {f lo hi c : Int32} {W : List Int32}
/-- a reader at rd over the text at xx -/
def RS_8 (K : Mem) (rd xx : Nat) : Prop := (m_kd K rd).1 = 18 ∧ m_rv K rd 1 = some xx ∧ m_kd K xx = (1, 400) ∧ rd ≠ xx
theorem RS_8.fi (A : RS_8 K rd xx) (j : Nat) : gI K 8 rd j = some (m_iv K rd j) := gI_k (ci := 8) A.1
theorem RS_8.fp (A : RS_8 K rd xx) (j : Nat) (v : Int32) : pI K 8 rd j v = some (m_setI K rd j v) := pI_k (ci := 8) A.1
theorem RS_8.fc (A : RS_8 K rd xx) : ck K 8 rd = some () := ck_k (ci := 8) A.1
theorem RS_8.g (A : RS_8 K rd xx) : gR K 8 rd 1 = some xx := (gR_k (ci := 8) A.1).trans A.2.1
theorem RS_8.a (A : RS_8 K rd xx) (hk : k < 400) : ald K xx (iN k) = some (m_iv K xx k) := ald_iN A.2.2.1 hk (by decide)
theorem RS_8.q (A : RS_8 K rd xx) (h : Rq rd K L) : RS_8 L rd xx := by
  obtain ⟨a1, a2, a3, a4⟩ := A
  refine ⟨?_, ?_, ?_, a4⟩
  · rw [h.1.2.1]; exact a1
  · rw [h.1.2.2.1]; exact a2
  · rw [h.1.2.1]; exact a3
theorem goOn_8 (A : RS_8 K rd xx) (hx : m_iv K xx = tx) (hen : en ≤ 400) (hN : 500 < N) (h2 : m_iv K rd 2 = iN en) (h4 : m_iv K rd 4 = iN i) (h5 : m_iv K rd 5 = iN b) (hb : b ≤ en) (hi : i ≤ en) (hf : m_iv K rd 0 = -1 ∨ ∃ p, p ≤ en ∧ m_iv K rd 0 = iN p) : ∃ L, f_TxR_goOn_8 N rd K = some L ∧ Rq rd K L ∧ CS L rd en tx (skN tx en b) i (m_iv K rd 0) := by
  have hsb := sk_b (tx := tx) hb
  have r1 : Rq rd K (m_setI (m_setI K rd 3 (iN i)) rd 4 (iN b)) := (Rq.set K 3 _).trans (Rq.set _ 4 _)
  have e177 : ∀ (L : Mem), Rq rd K L → m_iv L rd 0 = m_iv K rd 0 → m_iv L rd 2 = iN en → m_iv L rd 3 = iN i → m_iv L rd 4 = iN (skN tx en b) → ∀ s, m_iv L rd 5 = iN s → (tkE tx en (skN tx en b) = if s = skN tx en b then (if skN tx en b < en then skN tx en b + 1 else skN tx en b) else s) → s ≤ en → ∃ L2, f_TxR_goOn_8_177 N rd L = some L2 ∧ Rq rd K L2 ∧ CS L2 rd en tx (skN tx en b) i (m_iv K rd 0) := by
    intro L hq g0 g2 g3 g4 s g5 htk hs
    have A2 := A.q hq
    unfold f_TxR_goOn_8_177
    rw [A2.fi, ob, A2.fi, ob, g4, g5]
    have fin : ∀ L2 : Mem, Rq rd L L2 → m_iv L2 rd 0 = m_iv L rd 0 → m_iv L2 rd 2 = m_iv L rd 2 → m_iv L2 rd 3 = m_iv L rd 3 → m_iv L2 rd 4 = m_iv L rd 4 → m_iv L2 rd 5 = iN (tkE tx en (skN tx en b)) → Rq rd K L2 ∧ CS L2 rd en tx (skN tx en b) i (m_iv K rd 0) := fun L2 q k0 k2 k3 k4 k5 =>
      ⟨hq.trans q, k0.trans g0, k2.trans g2, k3.trans g3, k4.trans g4, k5, hsb.2, sk_sk hb, hi, hf⟩
    by_cases h1 : s = skN tx en b
    · rw [if_pos (by rw [h1]), ob, A2.fi, ob, g2]
      rw [if_pos h1] at htk
      by_cases h3 : skN tx en b < en
      · rw [if_pos h3] at htk
        rw [h1, if_neg (iN_nle h3 (by omega)), ob, A2.fp, ob, iN_s]
        exact ⟨_, rfl, fin _ (Rq.set L 5 _) (by rw [iv_same, up1_ne (by decide)]) (by rw [iv_same, up1_ne (by decide)]) (by rw [iv_same, up1_ne (by decide)]) (by rw [iv_same, up1_ne (by decide)]) (by rw [iv_same, up1_same, htk])⟩
      · rw [if_neg h3] at htk
        rw [h1, if_pos (iN_yle (by omega) (by omega))]
        exact ⟨_, rfl, fin _ (Rq.refl L) rfl rfl rfl rfl (by rw [g5, h1, htk])⟩
    · rw [if_neg (iN_ne h1 (by omega) (by omega))]
      rw [if_neg h1] at htk
      exact ⟨_, rfl, fin _ (Rq.refl L) rfl rfl rfl rfl (by rw [g5, htk])⟩
  have e125 : ∀ (d j fuel : Nat) (L : Mem), j + d = en → d < fuel → lwE tx en (skN tx en b) = skN tx en b → skN tx en b ≤ j → j ≤ dgE tx en (skN tx en b) → Rq rd K L → m_iv L rd 0 = m_iv K rd 0 → m_iv L rd 2 = iN en → m_iv L rd 3 = iN i → m_iv L rd 4 = iN (skN tx en b) → m_iv L rd 5 = iN j → ∃ L2, f_TxR_goOn_8_125 N rd fuel L = some L2 ∧ Rq rd K L2 ∧ CS L2 rd en tx (skN tx en b) i (m_iv K rd 0) := by
    intro d
    have hdb := dg_b (tx := tx) hsb.2
    have htk : lwE tx en (skN tx en b) = skN tx en b → tkE tx en (skN tx en b) = if dgE tx en (skN tx en b) = skN tx en b then (if skN tx en b < en then skN tx en b + 1 else skN tx en b) else dgE tx en (skN tx en b) := fun hl => by
      unfold tkE
      rw [hl, if_neg (fun q => q rfl)]
      by_cases h : dgE tx en (skN tx en b) = skN tx en b
      · rw [if_neg (fun q => q h), if_pos h]
      · rw [if_pos h, if_neg h]
    induction d with
    | zero =>
      intro j fuel L hj hfu hl hbj hjd hq g0 g2 g3 g4 g5
      obtain ⟨fu, rfl⟩ : ∃ fu, fuel = fu + 1 := ⟨fuel - 1, by omega⟩
      have A2 := A.q hq
      have hje : j = dgE tx en (skN tx en b) := by omega
      rw [f_TxR_goOn_8_125, A2.fi, ob, A2.fi, ob, g2, g5, if_pos (iN_yle (by omega) (by omega))]
      exact e177 L hq g0 g2 g3 g4 j g5 (by rw [hje]; exact htk hl) (by omega)
    | succ d ih =>
      intro j fuel L hj hfu hl hbj hjd hq g0 g2 g3 g4 g5
      obtain ⟨fu, rfl⟩ : ∃ fu, fuel = fu + 1 := ⟨fuel - 1, by omega⟩
      have A2 := A.q hq
      have hjn : j < en := by omega
      have hx2 : m_iv L xx = tx := (hq.2 xx (fun e => A.2.2.2 e.symm)).trans hx
      have stop : isD (tx j) = false → ∃ L2, f_TxR_goOn_8_177 N rd L = some L2 ∧ Rq rd K L2 ∧ CS L2 rd en tx (skN tx en b) i (m_iv K rd 0) := fun hd => by
        have hje : j = dgE tx en (skN tx en b) := Nat.le_antisymm hjd (Nat.le_of_not_lt fun hlt => by
          have := dg_all hbj hlt
          rw [hd] at this
          cases this)
        exact e177 L hq g0 g2 g3 g4 j g5 (by rw [hje]; exact htk hl) (by omega)
      rw [f_TxR_goOn_8_125, A2.fi, ob, A2.fi, ob, g2, g5, if_neg (iN_nle hjn (by omega)), A2.g, ob, ob, A2.a (by omega), ob, hx2]
      by_cases h1 : tx j < 48
      · rw [if_pos h1]
        exact stop (decide_eq_false fun q => Int32.not_lt.mpr q.1 h1)
      · rw [if_neg h1, ob, ob, A2.a (by omega), ob, hx2]
        by_cases h3 : 57 < tx j
        · rw [if_pos h3]
          exact stop (decide_eq_false fun q => Int32.not_lt.mpr q.2 h3)
        · rw [if_neg h3, ob, A2.fp, ob, iN_s]
          have hd : isD (tx j) = true := decide_eq_true ⟨Int32.not_lt.mp h1, Int32.not_lt.mp h3⟩
          have hlt : j < dgE tx en (skN tx en b) := by
            refine Nat.lt_of_le_of_ne hjd fun he => ?_
            have h7 := sE_at (c := fun j => !isD (tx j)) (en := en) (i := skN tx en b) (show dgE tx en (skN tx en b) < en by omega) hsb.2
            have h8 : (!isD (tx (dgE tx en (skN tx en b)))) = true := h7
            rw [← he, hd] at h8
            cases h8
          refine ih (j + 1) fu _ (by omega) (by omega) hl (by omega) hlt (hq.trans (Rq.set L 5 _)) ?_ ?_ ?_ ?_ ?_
          · rw [iv_same, up1_ne (by decide)]; exact g0
          · rw [iv_same, up1_ne (by decide)]; exact g2
          · rw [iv_same, up1_ne (by decide)]; exact g3
          · rw [iv_same, up1_ne (by decide)]; exact g4
          · rw [iv_same, up1_same]
  have e62 : ∀ (d j fuel : Nat) (L : Mem), j + d = en → d < fuel → skN tx en b ≤ j → j ≤ lwE tx en (skN tx en b) → Rq rd K L → m_iv L rd 0 = m_iv K rd 0 → m_iv L rd 2 = iN en → m_iv L rd 3 = iN i → m_iv L rd 4 = iN (skN tx en b) → m_iv L rd 5 = iN j → ∃ L2, f_TxR_goOn_8_62 N rd fuel L = some L2 ∧ Rq rd K L2 ∧ CS L2 rd en tx (skN tx en b) i (m_iv K rd 0) := by
    intro d
    have hlb := lw_b (tx := tx) hsb.2
    have e114 : ∀ (L : Mem), Rq rd K L → m_iv L rd 0 = m_iv K rd 0 → m_iv L rd 2 = iN en → m_iv L rd 3 = iN i → m_iv L rd 4 = iN (skN tx en b) → m_iv L rd 5 = iN (lwE tx en (skN tx en b)) → ∃ L2, f_TxR_goOn_8_114 N rd L = some L2 ∧ Rq rd K L2 ∧ CS L2 rd en tx (skN tx en b) i (m_iv K rd 0) := by
      intro L hq g0 g2 g3 g4 g5
      have A2 := A.q hq
      unfold f_TxR_goOn_8_114
      rw [A2.fi, ob, A2.fi, ob, g4, g5]
      by_cases h : lwE tx en (skN tx en b) = skN tx en b
      · rw [if_pos (by rw [h])]
        rw [h] at g5
        exact e125 (en - skN tx en b) _ N L (by omega) (by omega) h (Nat.le_refl _) (dg_b hsb.2).1 hq g0 g2 g3 g4 g5
      · rw [if_neg (iN_ne h (by omega) (by omega))]
        refine e177 L hq g0 g2 g3 g4 _ g5 ?_ hlb.2
        unfold tkE
        rw [if_pos h, if_neg h]
    induction d with
    | zero =>
      intro j fuel L hj hfu hbj hjd hq g0 g2 g3 g4 g5
      obtain ⟨fu, rfl⟩ : ∃ fu, fuel = fu + 1 := ⟨fuel - 1, by omega⟩
      have A2 := A.q hq
      have hje : j = lwE tx en (skN tx en b) := by omega
      rw [f_TxR_goOn_8_62, A2.fi, ob, A2.fi, ob, g2, g5, if_pos (iN_yle (by omega) (by omega))]
      exact e114 L hq g0 g2 g3 g4 (by rw [← hje]; exact g5)
    | succ d ih =>
      intro j fuel L hj hfu hbj hjd hq g0 g2 g3 g4 g5
      obtain ⟨fu, rfl⟩ : ∃ fu, fuel = fu + 1 := ⟨fuel - 1, by omega⟩
      have A2 := A.q hq
      have hjn : j < en := by omega
      have hx2 : m_iv L xx = tx := (hq.2 xx (fun e => A.2.2.2 e.symm)).trans hx
      have stop : isL (tx j) = false → ∃ L2, f_TxR_goOn_8_114 N rd L = some L2 ∧ Rq rd K L2 ∧ CS L2 rd en tx (skN tx en b) i (m_iv K rd 0) := fun hd => by
        have hje : j = lwE tx en (skN tx en b) := Nat.le_antisymm hjd (Nat.le_of_not_lt fun hlt => by
          have h9 := sE_lo (c := fun j => !isL (tx j)) (en := en) hbj hlt
          have h8 : (!isL (tx j)) = false := h9
          rw [hd] at h8
          cases h8)
        exact e114 L hq g0 g2 g3 g4 (by rw [← hje]; exact g5)
      rw [f_TxR_goOn_8_62, A2.fi, ob, A2.fi, ob, g2, g5, if_neg (iN_nle hjn (by omega)), A2.g, ob, ob, A2.a (by omega), ob, hx2]
      by_cases h1 : tx j < 97
      · rw [if_pos h1]
        exact stop (decide_eq_false fun q => Int32.not_lt.mpr q.1 h1)
      · rw [if_neg h1, ob, ob, A2.a (by omega), ob, hx2]
        by_cases h3 : 122 < tx j
        · rw [if_pos h3]
          exact stop (decide_eq_false fun q => Int32.not_lt.mpr q.2 h3)
        · rw [if_neg h3, ob, A2.fp, ob, iN_s]
          have hd : isL (tx j) = true := decide_eq_true ⟨Int32.not_lt.mp h1, Int32.not_lt.mp h3⟩
          have hlt : j < lwE tx en (skN tx en b) := by
            refine Nat.lt_of_le_of_ne hjd fun he => ?_
            have h7 := sE_at (c := fun j => !isL (tx j)) (en := en) (i := skN tx en b) (show lwE tx en (skN tx en b) < en by omega) hsb.2
            have h8 : (!isL (tx (lwE tx en (skN tx en b)))) = true := h7
            rw [← he, hd] at h8
            cases h8
          refine ih (j + 1) fu _ (by omega) (by omega) (by omega) hlt (hq.trans (Rq.set L 5 _)) ?_ ?_ ?_ ?_ ?_
          · rw [iv_same, up1_ne (by decide)]; exact g0
          · rw [iv_same, up1_ne (by decide)]; exact g2
          · rw [iv_same, up1_ne (by decide)]; exact g3
          · rw [iv_same, up1_ne (by decide)]; exact g4
          · rw [iv_same, up1_same]
  have e54 : ∀ (L : Mem), Rq rd K L → m_iv L rd 0 = m_iv K rd 0 → m_iv L rd 2 = iN en → m_iv L rd 3 = iN i → m_iv L rd 4 = iN (skN tx en b) → ∃ L2, f_TxR_goOn_8_54 N rd L = some L2 ∧ Rq rd K L2 ∧ CS L2 rd en tx (skN tx en b) i (m_iv K rd 0) := by
    intro L hq g0 g2 g3 g4
    have A2 := A.q hq
    unfold f_TxR_goOn_8_54
    rw [A2.fi, ob, g4, A2.fp, ob]
    refine e62 (en - skN tx en b) (skN tx en b) N _ (by omega) (by omega) (Nat.le_refl _) (lw_b hsb.2).1 (hq.trans (Rq.set L 5 _)) ?_ ?_ ?_ ?_ ?_
    · rw [iv_same, up1_ne (by decide)]; exact g0
    · rw [iv_same, up1_ne (by decide)]; exact g2
    · rw [iv_same, up1_ne (by decide)]; exact g3
    · rw [iv_same, up1_ne (by decide)]; exact g4
    · rw [iv_same, up1_same]
  have e16 : ∀ (d j fuel : Nat) (L : Mem), j + d = en → d < fuel → b ≤ j → j ≤ skN tx en b → Rq rd K L → m_iv L rd 0 = m_iv K rd 0 → m_iv L rd 2 = iN en → m_iv L rd 3 = iN i → m_iv L rd 4 = iN j → ∃ L2, f_TxR_goOn_8_16 N rd fuel L = some L2 ∧ Rq rd K L2 ∧ CS L2 rd en tx (skN tx en b) i (m_iv K rd 0) := by
    intro d
    induction d with
    | zero =>
      intro j fuel L hj hfu hbj hjd hq g0 g2 g3 g4
      obtain ⟨fu, rfl⟩ : ∃ fu, fuel = fu + 1 := ⟨fuel - 1, by omega⟩
      have A2 := A.q hq
      have hje : j = skN tx en b := by omega
      rw [f_TxR_goOn_8_16, A2.fi, ob, A2.fi, ob, g2, g4, if_pos (iN_yle (by omega) (by omega))]
      exact e54 L hq g0 g2 g3 (by rw [← hje]; exact g4)
    | succ d ih =>
      intro j fuel L hj hfu hbj hjd hq g0 g2 g3 g4
      obtain ⟨fu, rfl⟩ : ∃ fu, fuel = fu + 1 := ⟨fuel - 1, by omega⟩
      have A2 := A.q hq
      have hjn : j < en := by omega
      have hx2 : m_iv L xx = tx := (hq.2 xx (fun e => A.2.2.2 e.symm)).trans hx
      rw [f_TxR_goOn_8_16, A2.fi, ob, A2.fi, ob, g2, g4, if_neg (iN_nle hjn (by omega)), A2.g, ob, ob, A2.a (by omega), ob, hx2]
      by_cases h1 : tx j = 32
      · have hlt : j < skN tx en b := by
          refine Nat.lt_of_le_of_ne hjd fun he => ?_
          have h7 := sE_at (c := fun j => decide (tx j ≠ 32)) (en := en) (i := b) (show skN tx en b < en by omega) hb
          have h8 : decide (tx (skN tx en b) ≠ 32) = true := h7
          rw [← he, h1] at h8
          exact absurd h8 (by decide)
        rw [if_pos h1, ob, A2.fp, ob, iN_s]
        refine ih (j + 1) fu _ (by omega) (by omega) (by omega) hlt (hq.trans (Rq.set L 4 _)) ?_ ?_ ?_ ?_
        · rw [iv_same, up1_ne (by decide)]; exact g0
        · rw [iv_same, up1_ne (by decide)]; exact g2
        · rw [iv_same, up1_ne (by decide)]; exact g3
        · rw [iv_same, up1_same]
      · rw [if_neg h1]
        have hje : j = skN tx en b := Nat.le_antisymm hjd (Nat.le_of_not_lt fun hlt => by
          have h9 := sE_lo (c := fun j => decide (tx j ≠ 32)) (en := en) hbj hlt
          have h8 : decide (tx j ≠ 32) = false := h9
          rw [decide_eq_true h1] at h8
          cases h8)
        exact e54 L hq g0 g2 g3 (by rw [← hje]; exact g4)
  unfold f_TxR_goOn_8
  have A1 := A.q (Rq.set K 3 (iN i))
  rw [A.fi, ob, h4, A.fp, ob, A1.fi, ob, iv_same, up1_ne (show (5 : Nat) ≠ 3 by decide), h5, A1.fp, ob]
  refine e16 (en - b) b N _ (by omega) (by omega) (Nat.le_refl _) hsb.1 r1 ?_ ?_ ?_ ?_
  · rw [iv_same, up1_ne (by decide), iv_same, up1_ne (by decide)]
  · rw [iv_same, up1_ne (by decide), iv_same, up1_ne (by decide)]; exact h2
  · rw [iv_same, up1_ne (by decide), iv_same, up1_same]
  · rw [iv_same, up1_same]
theorem takeWord_8 (A : RS_8 K rd xx) (hx : m_iv K xx = tx) (hen : en ≤ 400) (hN : 500 < N) (C : CS K rd en tx i t f) (hw : wdB w = true) : (f = -1 ∧ wAt tx en i (s_byt w) ∧ ∃ L, f_TxR_takeWord_8 N rd w K = some (1, L) ∧ Rq rd K L ∧ CS L rd en tx (skN tx en (lwE tx en i)) i (-1)) ∨ (¬ (f = -1 ∧ wAt tx en i (s_byt w)) ∧ f_TxR_takeWord_8 N rd w K = some (0, K)) := by
  obtain ⟨c0, c2, c3, c4, c5, hi, hs, ht, hf⟩ := id C
  obtain ⟨-, w2, w3, w4⟩ := wdB_p hw
  have htb := tk_b (tx := tx) hi
  have hlb := lw_b (tx := tx) hi
  unfold f_TxR_takeWord_8
  rw [A.fi, ob, c0]
  by_cases h1 : f = -1
  · rw [if_pos h1, A.fi, ob, A.fi, ob, c4, c5, sLen_eq hw, ob, iN_sub htb.1]
    have no : ¬ wAt tx en i (s_byt w) → tkE tx en i - i = (s_byt w).length → ∃ k, k < (s_byt w).length ∧ tx (i + k) ≠ (s_byt w).getD k 0 := fun hn hl => by
      refine Classical.byContradiction fun hq => hn ?_
      have hall : ∀ k, k < (s_byt w).length → tx (i + k) = (s_byt w).getD k 0 := fun k hk => Classical.byContradiction fun q => hq ⟨k, hk, q⟩
      refine ⟨?_, hall⟩
      have h0 := hall 0 w2
      rw [Nat.add_zero] at h0
      have hL : isL (tx i) = true := by rw [h0]; exact w4 0 w2
      have hin : i < en := by omega
      have hlt := lw_n hin hL
      have : tkE tx en i = lwE tx en i := if_pos (by omega)
      omega
    have yes : wAt tx en i (s_byt w) → tkE tx en i - i = (s_byt w).length := fun h => by
      rw [wAt_tk h w2, h.1]
      omega
    by_cases h2 : tkE tx en i - i = (s_byt w).length
    · rw [if_pos (by rw [h2])]
      have k28 : ∀ (d j fuel : Nat), j + d = (s_byt w).length → d < fuel → (∀ k, k < j → tx (i + k) = (s_byt w).getD k 0) → (wAt tx en i (s_byt w) ∧ f_TxR_takeWord_8_28 N rd w fuel (iN j) K = f_TxR_takeWord_8_76 N rd w K) ∨ (¬ wAt tx en i (s_byt w) ∧ f_TxR_takeWord_8_28 N rd w fuel (iN j) K = some (0, K)) := by
        intro d
        induction d with
        | zero =>
          intro j fuel hj hfu hall
          obtain ⟨fu, rfl⟩ : ∃ fu, fuel = fu + 1 := ⟨fuel - 1, by omega⟩
          obtain rfl : j = (s_byt w).length := by omega
          refine Or.inl ⟨Classical.byContradiction fun hn => ?_, by rw [f_TxR_takeWord_8_28, sLen_eq hw, ob, if_pos (i_le_rfl _)]⟩
          obtain ⟨k, hk, q⟩ := no hn h2
          exact q (hall k hk)
        | succ d ih =>
          intro j fuel hj hfu hall
          obtain ⟨fu, rfl⟩ : ∃ fu, fuel = fu + 1 := ⟨fuel - 1, by omega⟩
          rw [f_TxR_takeWord_8_28, sLen_eq hw, ob, if_neg (iN_nle (show j < (s_byt w).length by omega) (by omega)), A.fi, ob, A.fi, ob, c2, c4, iN_add, if_neg (iN_nle (show i + j < en by omega) (by omega)), A.g, ob, ob, iN_add, A.a (by omega), ob, hx, sAt_eq hw (by omega), ob, iN_s]
          by_cases he : tx (i + j) = (s_byt w).getD j 0
          · rw [if_pos he]
            refine ih (j + 1) fu (by omega) (by omega) fun k hk => ?_
            by_cases hkj : k = j
            · rw [hkj]; exact he
            · exact hall k (by omega)
          · rw [if_neg he]
            exact Or.inr ⟨fun q => he (q.2 j (by omega)), rfl⟩
      rcases k28 (s_byt w).length 0 N (Nat.zero_add _) (by omega) (fun k hk => absurd hk (Nat.not_lt_zero k)) with ⟨g1, g2⟩ | ⟨g1, g2⟩
      · left
        have g2 : f_TxR_takeWord_8_28 N rd w N 0 K = f_TxR_takeWord_8_76 N rd w K := g2
        obtain ⟨L, l1, l2, l3⟩ := goOn_8 (N := N) A hx hen hN c2 c4 c5 htb.2 hi (by rw [c0]; exact hf)
        refine ⟨h1, g1, L, ?_, l2, ?_⟩
        · rw [g2]
          unfold f_TxR_takeWord_8_76
          rw [A.fc, ob, l1, ob]
        · rw [wAt_tk g1 w2, c0, h1] at l3
          exact l3
      · exact Or.inr ⟨fun q => g1 q.2, g2⟩
    · rw [if_neg (iN_ne h2 (by omega) (by omega))]
      exact Or.inr ⟨fun q => h2 (yes q.2), rfl⟩
  · rw [if_neg h1]
    exact Or.inr ⟨fun q => h1 q.1, rfl⟩
theorem nextIsWrong_8 (A : RS_8 K rd xx) (C : CS K rd en tx i t f) : ∃ L, f_TxR_nextIsWrong_8 rd K = some L ∧ Rq rd K L ∧ CS L rd en tx i t (if f = -1 then iN i else f) := by
  obtain ⟨c0, c2, c3, c4, c5, hi, hs, ht, hf⟩ := id C
  unfold f_TxR_nextIsWrong_8
  rw [A.fi, ob, c0]
  by_cases h1 : f = -1
  · rw [if_pos h1, if_pos h1, A.fi, ob, c4, A.fp, ob]
    refine ⟨_, rfl, Rq.set K 0 _, ?_, ?_, ?_, ?_, ?_, hi, hs, ht, Or.inr ⟨i, hi, rfl⟩⟩
    · rw [iv_same, up1_same]
    · rw [iv_same, up1_ne (by decide)]; exact c2
    · rw [iv_same, up1_ne (by decide)]; exact c3
    · rw [iv_same, up1_ne (by decide)]; exact c4
    · rw [iv_same, up1_ne (by decide)]; exact c5
  · rw [if_neg h1, if_neg h1]
    exact ⟨K, rfl, Rq.refl K, C⟩
theorem takenIsWrong_8 (A : RS_8 K rd xx) (C : CS K rd en tx i t f) : ∃ L, f_TxR_takenIsWrong_8 rd K = some L ∧ Rq rd K L ∧ CS L rd en tx i t (if f = -1 then iN t else f) := by
  obtain ⟨c0, c2, c3, c4, c5, hi, hs, ht, hf⟩ := id C
  unfold f_TxR_takenIsWrong_8
  rw [A.fi, ob, c0]
  by_cases h1 : f = -1
  · rw [if_pos h1, if_pos h1, A.fi, ob, c3, A.fp, ob]
    refine ⟨_, rfl, Rq.set K 0 _, ?_, ?_, ?_, ?_, ?_, hi, hs, ht, Or.inr ⟨t, ht, rfl⟩⟩
    · rw [iv_same, up1_same]
    · rw [iv_same, up1_ne (by decide)]; exact c2
    · rw [iv_same, up1_ne (by decide)]; exact c3
    · rw [iv_same, up1_ne (by decide)]; exact c4
    · rw [iv_same, up1_ne (by decide)]; exact c5
  · rw [if_neg h1, if_neg h1]
    exact ⟨K, rfl, Rq.refl K, C⟩
theorem readWord_8 (A : RS_8 K rd xx) (hx : m_iv K xx = tx) (hen : en ≤ 400) (hN : 500 < N) (C : CS K rd en tx i t f) (hw : wdB w = true) : ∃ L, f_TxR_readWord_8 N rd w K = some L ∧ Rq rd K L ∧ ((f = -1 ∧ wAt tx en i (s_byt w) ∧ CS L rd en tx (skN tx en (lwE tx en i)) i (-1)) ∨ (¬ (f = -1 ∧ wAt tx en i (s_byt w)) ∧ CS L rd en tx i t (if f = -1 then iN i else f))) := by
  unfold f_TxR_readWord_8
  rw [A.fc, ob]
  rcases takeWord_8 (N := N) A hx hen hN C hw with ⟨h1, h2, L, h3, h4, h5⟩ | ⟨h1, h2⟩
  · rw [h3, ob, if_neg (show ¬ ((1 : Int32), L).1 = 0 from i1n)]
    exact ⟨L, rfl, h4, Or.inl ⟨h1, h2, h5⟩⟩
  · obtain ⟨L, l1, l2, l3⟩ := nextIsWrong_8 A C
    rw [h2, ob, if_pos rfl]
    dsimp only
    rw [A.fc, ob, l1, ob]
    exact ⟨L, rfl, l2, Or.inr ⟨h1, l3⟩⟩
theorem takeSign_8 (A : RS_8 K rd xx) (hx : m_iv K xx = tx) (hen : en ≤ 400) (hN : 500 < N) (C : CS K rd en tx i t f) (hc1 : isL c = false) (hc2 : isD c = false) : (f = -1 ∧ i < en ∧ tx i = c ∧ ∃ L, f_TxR_takeSign_8 N rd c K = some (1, L) ∧ Rq rd K L ∧ CS L rd en tx (skN tx en (i + 1)) i (-1)) ∨ (¬ (f = -1 ∧ i < en ∧ tx i = c) ∧ f_TxR_takeSign_8 N rd c K = some (0, K)) := by
  obtain ⟨c0, c2, c3, c4, c5, hi, hs, ht, hf⟩ := id C
  have htb := tk_b (tx := tx) hi
  have e36 : f_TxR_takeSign_8_36 N rd c K = some (0, K) := by
    unfold f_TxR_takeSign_8_36 f_TxR_takeSign_8_37
    rw [if_pos rfl]
    rfl
  unfold f_TxR_takeSign_8
  rw [A.fi, ob, c0]
  by_cases h1 : f = -1
  · rw [if_pos h1, A.fi, ob, A.fi, ob, c4, c2]
    by_cases h2 : i < en
    · rw [if_neg (iN_nle h2 (by omega)), A.g, ob, ob, A.a (by omega), ob, hx]
      by_cases h3 : tx i = c
      · left
        obtain ⟨L, l1, l2, l3⟩ := goOn_8 (N := N) A hx hen hN c2 c4 c5 htb.2 hi (by rw [c0]; exact hf)
        refine ⟨h1, h2, h3, L, ?_, l2, ?_⟩
        · rw [if_pos h3]
          unfold f_TxR_takeSign_8_37
          rw [if_neg i1n, A.fc, ob, l1, ob]
          rfl
        · rw [tk_sign h2 (by rw [h3]; exact hc1) (by rw [h3]; exact hc2), c0, h1] at l3
          exact l3
      · rw [if_neg h3, e36]
        exact Or.inr ⟨fun q => h3 q.2.2, rfl⟩
    · rw [if_pos (iN_yle (by omega) (by omega)), e36]
      exact Or.inr ⟨fun q => h2 q.2.1, rfl⟩
  · rw [if_neg h1, e36]
    exact Or.inr ⟨fun q => h1 q.1, rfl⟩
theorem readSign_8 (A : RS_8 K rd xx) (hx : m_iv K xx = tx) (hen : en ≤ 400) (hN : 500 < N) (C : CS K rd en tx i t f) (hc1 : isL c = false) (hc2 : isD c = false) : ∃ L, f_TxR_readSign_8 N rd c K = some L ∧ Rq rd K L ∧ ((f = -1 ∧ i < en ∧ tx i = c ∧ CS L rd en tx (skN tx en (i + 1)) i (-1)) ∨ (¬ (f = -1 ∧ i < en ∧ tx i = c) ∧ CS L rd en tx i t (if f = -1 then iN i else f))) := by
  unfold f_TxR_readSign_8
  rw [A.fc, ob]
  rcases takeSign_8 (N := N) A hx hen hN C hc1 hc2 with ⟨h1, h2, h3, L, l1, l2, l3⟩ | ⟨h1, h2⟩
  · rw [l1, ob, if_neg (show ¬ ((1 : Int32), L).1 = 0 from i1n)]
    exact ⟨L, rfl, l2, Or.inl ⟨h1, h2, h3, l3⟩⟩
  · obtain ⟨L, l1, l2, l3⟩ := nextIsWrong_8 A C
    rw [h2, ob, if_pos rfl]
    dsimp only
    rw [A.fc, ob, l1, ob]
    exact ⟨L, rfl, l2, Or.inr ⟨h1, l3⟩⟩
theorem readNumber_8 (A : RS_8 K rd xx) (hx : m_iv K xx = tx) (hen : en ≤ 400) (hN : 500 < N) (C : CS K rd en tx i t f) (lo : Nat) (hlo : lo ≤ 10000) (hi : Int32) : (f = -1 ∧ gdN tx en i lo hi ∧ ∃ L, f_TxR_readNumber_8 N rd (iN lo) hi K = some (iN (dvN tx i (dgE tx en i)), L) ∧ Rq rd K L ∧ CS L rd en tx (skN tx en (dgE tx en i)) i (-1)) ∨ (¬ (f = -1 ∧ gdN tx en i lo hi) ∧ ∃ L, f_TxR_readNumber_8 N rd (iN lo) hi K = some (-1, L) ∧ Rq rd K L ∧ CS L rd en tx i t (if f = -1 then iN i else f)) := by
  obtain ⟨c0, c2, c3, c4, c5, hie, hs, ht, hf⟩ := id C
  have htb := tk_b (tx := tx) hie
  have hdb := dg_b (tx := tx) hie
  have e95 : ∃ L, f_TxR_readNumber_8_95 N rd (iN lo) hi K = some (-1, L) ∧ Rq rd K L ∧ CS L rd en tx i t (if f = -1 then iN i else f) := by
    obtain ⟨L, l1, l2, l3⟩ := nextIsWrong_8 A C
    refine ⟨L, ?_, l2, l3⟩
    unfold f_TxR_readNumber_8_95
    rw [A.fc, ob, l1, ob]
  have e77 : ∀ v, (f = -1 → v < iN lo ∨ ¬ v ≤ hi) → ∃ L, f_TxR_readNumber_8_77 N rd (iN lo) hi v K = some (-1, L) ∧ Rq rd K L ∧ CS L rd en tx i t (if f = -1 then iN i else f) := fun v hv => by
    unfold f_TxR_readNumber_8_77
    rw [A.fi, ob, c0]
    by_cases h1 : f = -1
    · rw [if_pos h1]
      by_cases h2 : v < iN lo
      · rw [if_pos h2]; exact e95
      · rw [if_neg h2, if_neg ((hv h1).resolve_left h2)]; exact e95
    · rw [if_neg h1]; exact e95
  have e24 : ∃ L, f_TxR_readNumber_8_24 N rd (iN lo) hi K = some (-1, L) ∧ Rq rd K L ∧ CS L rd en tx i t (if f = -1 then iN i else f) := by
    unfold f_TxR_readNumber_8_24 f_TxR_readNumber_8_25
    obtain ⟨fu, hfu⟩ : ∃ fu, N = fu + 1 := ⟨N - 1, by omega⟩
    rw [A.fi, ob]
    have e32 : f_TxR_readNumber_8_32 N rd (iN lo) hi N (-1) (m_iv K rd 4) K = f_TxR_readNumber_8_77 N rd (iN lo) hi (-1) K := by
      have : ∀ g, g = fu + 1 → f_TxR_readNumber_8_32 N rd (iN lo) hi g (-1) (m_iv K rd 4) K = f_TxR_readNumber_8_77 N rd (iN lo) hi (-1) K := fun g hg => by
        rw [hg, f_TxR_readNumber_8_32, if_pos rfl]
      exact this N hfu
    rw [e32]
    exact e77 (-1) fun _ => Or.inl (Int32.lt_of_lt_of_le (by decide : (-1 : Int32) < 0) (Int32.not_lt.mp (iN_nn (by omega))))
  have eN : f_TxR_isNumberNext_8 rd K = some (b01 (decide (dgE tx en i ≠ i))) := by
    unfold f_TxR_isNumberNext_8
    rw [A.fi, ob, A.fi, ob, c4, c2]
    by_cases h1 : i < en
    · rw [if_neg (iN_nle h1 (by omega)), A.g, ob, ob, A.a (by omega), ob, hx]
      by_cases h2 : isD (tx i) = true
      · have h3 := dg_n h1 h2
        have h5 : dgE tx en i ≠ i := by omega
        have h4 : 48 ≤ tx i ∧ tx i ≤ 57 := of_decide_eq_true h2
        rw [if_neg (Int32.not_lt.mpr h4.1), ob, ob, A.a (by omega), ob, hx, if_neg (Int32.not_lt.mpr h4.2), decide_eq_true h5]
        rfl
      · have h3 := dg_i h1 (Bool.eq_false_iff.mpr h2)
        rw [decide_eq_false (fun q => q h3)]
        by_cases h4 : tx i < 48
        · rw [if_pos h4]; rfl
        · rw [if_neg h4, ob, ob, A.a (by omega), ob, hx]
          by_cases h5 : 57 < tx i
          · rw [if_pos h5]; rfl
          · exact absurd (decide_eq_true (And.intro (Int32.not_lt.mp h4) (Int32.not_lt.mp h5))) h2
    · have h3 : dgE tx en i = i := by omega
      rw [if_pos (iN_yle (by omega) (by omega)), decide_eq_false (fun q => q h3)]
      rfl
  unfold f_TxR_readNumber_8
  rw [A.fc, ob, eN, ob]
  by_cases h1 : dgE tx en i = i
  · rw [decide_eq_false (fun q => q h1), if_pos (show b01 false = 0 from rfl)]
    exact Or.inr ⟨fun q => q.2.1 h1, e24⟩
  · have h1d : dgE tx en i ≠ i := h1
    have htk := tk_dg hie h1
    rw [decide_eq_true h1d, if_neg (show ¬ b01 true = 0 by decide), A.fi, ob, A.fi, ob, c4, c5, iN_sub htb.1, htk]
    by_cases h2 : 3 < dgE tx en i - i
    · rw [if_pos (show (3 : Int32) < iN (dgE tx en i - i) from iN_ylt (k := 3) h2 (by omega))]
      exact Or.inr ⟨fun q => by have := q.2.2.1; omega, e24⟩
    · rw [if_neg (show ¬ (3 : Int32) < iN (dgE tx en i - i) from iN_nlt (n := dgE tx en i - i) (k := 3) (by omega) (by decide))]
      unfold f_TxR_readNumber_8_25
      rw [A.fi, ob, c4]
      have dall : ∀ j, j ≤ dgE tx en i → ∀ k, i ≤ k → k < j → isD (tx k) = true := fun j hj k g1 g2 => dg_all (en := en) g1 (by omega)
      have k32 : ∀ (d j fuel : Nat), j + d = dgE tx en i → i ≤ j → d < fuel → f_TxR_readNumber_8_32 N rd (iN lo) hi fuel (iN (dvN tx i j)) (iN j) K = f_TxR_readNumber_8_77 N rd (iN lo) hi (iN (dvN tx i (dgE tx en i))) K := by
        intro d
        induction d with
        | zero =>
          intro j fuel hj hij hfu
          obtain ⟨fu, rfl⟩ : ∃ fu, fuel = fu + 1 := ⟨fuel - 1, by omega⟩
          obtain rfl : j = dgE tx en i := by omega
          have hv := dv_le hij (by omega) (dall _ (Nat.le_refl _))
          rw [f_TxR_readNumber_8_32, if_neg (iN_m1 (by omega)), A.fi, ob, c5, htk, if_pos (i_le_rfl _)]
        | succ d ih =>
          intro j fuel hj hij hfu
          obtain ⟨fu, rfl⟩ : ∃ fu, fuel = fu + 1 := ⟨fuel - 1, by omega⟩
          have hv := dv_le hij (by omega) (dall j (by omega))
          have hd := dall _ (Nat.le_refl _) j hij (by omega)
          rw [f_TxR_readNumber_8_32, if_neg (iN_m1 (by omega)), A.fi, ob, c5, htk, if_neg (iN_nle (by omega) (by omega)), A.fi, ob, c2, if_neg (iN_nle (by omega) (by omega)), A.g, ob, A.a (by omega), ob, hx, dv_step hij hd, iN_s]
          exact ih (j + 1) fu (by omega) (by omega) (by omega)
      have h0 : dvN tx i i = 0 := by unfold dvN; rw [Nat.sub_self]; rfl
      have k0 := k32 (dgE tx en i - i) i N (by omega) (Nat.le_refl _) (by omega)
      rw [h0] at k0
      have k0 : f_TxR_readNumber_8_32 N rd (iN lo) hi N 0 (iN i) K = f_TxR_readNumber_8_77 N rd (iN lo) hi (iN (dvN tx i (dgE tx en i))) K := k0
      rw [k0]
      have hv := dv_le hdb.1 (by omega) (dall _ (Nat.le_refl _))
      by_cases h3 : f = -1 ∧ gdN tx en i lo hi
      · left
        obtain ⟨L, l1, l2, l3⟩ := goOn_8 (N := N) A hx hen hN c2 c4 c5 htb.2 hie (by rw [c0]; exact hf)
        refine ⟨h3.1, h3.2, L, ?_, l2, ?_⟩
        · unfold f_TxR_readNumber_8_77
          rw [A.fi, ob, c0, if_pos h3.1, if_neg (iN_nlt h3.2.2.2.1 (by omega)), if_pos h3.2.2.2.2, A.fc, ob, l1, ob]
        · rw [htk, c0, h3.1] at l3
          exact l3
      · refine Or.inr ⟨h3, e77 _ fun hf1 => ?_⟩
        by_cases h4 : dvN tx i (dgE tx en i) < lo
        · exact Or.inl (iN_ylt h4 (by omega))
        · exact Or.inr fun h5 => h3 ⟨hf1, h1, by omega, by omega, h5⟩
end Lc
