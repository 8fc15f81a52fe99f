section Pt
variable {N en i j k p t w b rd xx a n s D : Nat} {tx : Nat → Int32} {K L M : Mem} {f v u : Int32} {r q : Rho}
theorem wAt_L (hi : i ≤ en) (hw : wdB w = true) (h : wAt tx en i (s_byt w)) : i < en ∧ isL (tx i) = true ∧ isD (tx i) = false := by
  obtain ⟨-, w2, -, w4⟩ := wdB_p hw
  have h0 := h.2 0 w2
  rw [Nat.add_zero] at h0
  have hL : isL (tx i) = true := by rw [h0]; exact w4 0 w2
  refine ⟨wAt_lt h hi w2, hL, Bool.eq_false_iff.mpr fun q => ?_⟩
  rw [LD _ q] at hL
  cases hL
/-- the model, at no number -/
theorem part_52 (hT : TXm r tx en) (hen : en ≤ 400) (hN : 500 < N) (m : ML r tx en i) (hd : ¬ (i < en ∧ isD (tx i) = true)) : ∃ q, f_R_part N r = f_R_part_52 N q ∧ Lx r q ∧ ML q tx en i := by
  obtain ⟨q, a1, a2, a3, a4⟩ := skip_ml hT hen hN m
  have hT2 := hT.lx a2
  refine ⟨q, ?_, a2, ML.at0 m.le m.sk a3 a4⟩
  have hle := m.le
  unfold f_R_part
  rw [if_pos m.1, a1, ob, a4, hT2.1]
  by_cases h1 : i < en
  · have h2 : isD (tx i) = false := Bool.eq_false_iff.mpr fun z => hd ⟨h1, z⟩
    rw [if_neg (iN_nle h1 (by omega)), letter_eq hT2 hen h1, ob, isInD, ob, h2, if_pos (show b01 false = 0 from rfl)]
  · rw [if_pos (iN_yle (by omega) (by omega))]
theorem part_num (hT : TXm r tx en) (hen : en ≤ 400) (hN : 500 < N) (m : ML r tx en i) (h1 : i < en) (h2 : isD (tx i) = true) : ∃ q, f_R_part N r = ((f_R_figures N 0 999 q).bind fun z4 => some (z4.1, z4.2)) ∧ Lx r q ∧ ML q tx en i := by
  obtain ⟨q, a1, a2, a3, a4⟩ := skip_ml hT hen hN m
  have hT2 := hT.lx a2
  refine ⟨q, ?_, a2, ML.at0 m.le m.sk a3 a4⟩
  unfold f_R_part
  rw [if_pos m.1, a1, ob, a4, hT2.1, if_neg (iN_nle h1 (by omega)), letter_eq hT2 hen h1, ob, isInD, ob, h2, if_neg (show ¬ b01 true = 0 by decide)]
theorem y14 (h : k < 6) : rld r 14 (iN k) = some (r.2 14 k) := rld_iN (j := 14) h
/-- the class, a word taken -/
theorem part_80 (H : LRS L rd xx a en tx i t (-1) n s) (hen : en ≤ 400) (hs : s < en) {y : Int32} (hy0 : y ≠ 0) (hy : y < 9) : ∃ L2, f_LR_readPart_80 N rd y L = some L2 ∧ LRS L2 rd xx a en tx i t (-1) n (s + 1) ∧ St rd a L L2 s (s + 1) ∧ ∀ F, Seg F (m_iv L2 (a + 4)) (m_iv L2 (a + 5)) s (s + 1) 1 (stV F y) := by
  obtain ⟨L2, s2, c1, H2, S2, c2⟩ := addStep_cl H hen y 0
  obtain ⟨rfl, c3, c4⟩ := c2 hs
  refine ⟨L2, ?_, H2, S2, fun F => ?_⟩
  · unfold f_LR_readPart_80 f_LR_readPart_102
    rw [H.g6, ob, if_neg hy0, H.W.c0, ob, c1, ob]
  · have h := Seg.push (F := F) (s := m_iv L2 (a + 4)) (u := m_iv L2 (a + 5)) (i := s) (by rw [c3]; exact hy)
    rw [c3, if_neg hy0] at h
    exact h
theorem part_m0 (hT : TXm r tx en) (hen : en ≤ 400) (hN : 500 < N) (m : ML r tx en i)  (y : wAt tx en i (s_byt 52)) : ∃ q, f_R_part_52 N r = some (r.2 14 0, q) ∧ Lx r q ∧ ML q tx en (skN tx en (lwE tx en i)) := by
  obtain ⟨q, a, b, c, d⟩ := has_y (N := N) (w := 52) hT hen hN m (by decide) y
  refine ⟨q, ?_, b, ML.at (lw_b m.le).2 c d⟩
  unfold f_R_part_52
  rw [a, ob, if_neg (show ¬ ((1 : Int32), q).1 = 0 from i1n)]
  unfold f_R_part_131
  dsimp only
  rw [if_neg (by decide), show rld q 14 0 = some (q.2 14 0) from y14 (k := 0) (by decide), ob, (b).1]
theorem part_m1 (hT : TXm r tx en) (hen : en ≤ 400) (hN : 500 < N) (m : ML r tx en i) (n0 : ¬ wAt tx en i (s_byt 52)) (y : wAt tx en i (s_byt 53)) : ∃ q, f_R_part_52 N r = some (r.2 14 1, q) ∧ Lx r q ∧ ML q tx en (skN tx en (lwE tx en i)) := by
  obtain ⟨q0, a0, b0, c0⟩ := has_n (N := N) (w := 52) hT hen hN m (by decide) n0
  obtain ⟨q, a, b, c, d⟩ := has_y (N := N) (w := 53) (hT.lx b0) hen hN c0 (by decide) y
  refine ⟨q, ?_, (b0.trans b), ML.at (lw_b m.le).2 c d⟩
  unfold f_R_part_52
  rw [a0, ob, if_pos rfl]
  dsimp only
  rw [a, ob, if_neg (show ¬ ((1 : Int32), q).1 = 0 from i1n)]
  unfold f_R_part_131
  dsimp only
  rw [if_neg (by decide), show rld q 14 1 = some (q.2 14 1) from y14 (k := 1) (by decide), ob, ((b0.trans b)).1]
theorem part_m2 (hT : TXm r tx en) (hen : en ≤ 400) (hN : 500 < N) (m : ML r tx en i) (n0 : ¬ wAt tx en i (s_byt 52)) (n1 : ¬ wAt tx en i (s_byt 53)) (y : wAt tx en i (s_byt 54)) : ∃ q, f_R_part_52 N r = some (r.2 14 2, q) ∧ Lx r q ∧ ML q tx en (skN tx en (lwE tx en i)) := by
  obtain ⟨q0, a0, b0, c0⟩ := has_n (N := N) (w := 52) hT hen hN m (by decide) n0
  obtain ⟨q1, a1, b1, c1⟩ := has_n (N := N) (w := 53) (hT.lx b0) hen hN c0 (by decide) n1
  obtain ⟨q, a, b, c, d⟩ := has_y (N := N) (w := 54) ((hT.lx b0).lx b1) hen hN c1 (by decide) y
  refine ⟨q, ?_, ((b0.trans b1).trans b), ML.at (lw_b m.le).2 c d⟩
  unfold f_R_part_52
  rw [a0, ob, if_pos rfl]
  dsimp only
  rw [a1, ob, if_pos rfl]
  dsimp only
  rw [a, ob, if_neg (show ¬ ((1 : Int32), q).1 = 0 from i1n)]
  unfold f_R_part_131
  dsimp only
  rw [if_neg (by decide), show rld q 14 2 = some (q.2 14 2) from y14 (k := 2) (by decide), ob, (((b0.trans b1).trans b)).1]
theorem part_m3 (hT : TXm r tx en) (hen : en ≤ 400) (hN : 500 < N) (m : ML r tx en i) (n0 : ¬ wAt tx en i (s_byt 52)) (n1 : ¬ wAt tx en i (s_byt 53)) (n2 : ¬ wAt tx en i (s_byt 54)) (y : wAt tx en i (s_byt 55)) : ∃ q, f_R_part_52 N r = some (r.2 14 3, q) ∧ Lx r q ∧ ML q tx en (skN tx en (lwE tx en i)) := by
  obtain ⟨q0, a0, b0, c0⟩ := has_n (N := N) (w := 52) hT hen hN m (by decide) n0
  obtain ⟨q1, a1, b1, c1⟩ := has_n (N := N) (w := 53) (hT.lx b0) hen hN c0 (by decide) n1
  obtain ⟨q2, a2, b2, c2⟩ := has_n (N := N) (w := 54) ((hT.lx b0).lx b1) hen hN c1 (by decide) n2
  obtain ⟨q, a, b, c, d⟩ := has_y (N := N) (w := 55) (((hT.lx b0).lx b1).lx b2) hen hN c2 (by decide) y
  refine ⟨q, ?_, (((b0.trans b1).trans b2).trans b), ML.at (lw_b m.le).2 c d⟩
  unfold f_R_part_52
  rw [a0, ob, if_pos rfl]
  dsimp only
  rw [a1, ob, if_pos rfl]
  dsimp only
  rw [a2, ob, if_pos rfl]
  dsimp only
  rw [a, ob, if_neg (show ¬ ((1 : Int32), q).1 = 0 from i1n)]
  unfold f_R_part_131
  dsimp only
  rw [if_neg (by decide), show rld q 14 3 = some (q.2 14 3) from y14 (k := 3) (by decide), ob, ((((b0.trans b1).trans b2).trans b)).1]
theorem part_m4 (hT : TXm r tx en) (hen : en ≤ 400) (hN : 500 < N) (m : ML r tx en i) (n0 : ¬ wAt tx en i (s_byt 52)) (n1 : ¬ wAt tx en i (s_byt 53)) (n2 : ¬ wAt tx en i (s_byt 54)) (n3 : ¬ wAt tx en i (s_byt 55)) (y : wAt tx en i (s_byt 56)) : ∃ q, f_R_part_52 N r = some (r.2 14 4, q) ∧ Lx r q ∧ ML q tx en (skN tx en (lwE tx en i)) := by
  obtain ⟨q0, a0, b0, c0⟩ := has_n (N := N) (w := 52) hT hen hN m (by decide) n0
  obtain ⟨q1, a1, b1, c1⟩ := has_n (N := N) (w := 53) (hT.lx b0) hen hN c0 (by decide) n1
  obtain ⟨q2, a2, b2, c2⟩ := has_n (N := N) (w := 54) ((hT.lx b0).lx b1) hen hN c1 (by decide) n2
  obtain ⟨q3, a3, b3, c3⟩ := has_n (N := N) (w := 55) (((hT.lx b0).lx b1).lx b2) hen hN c2 (by decide) n3
  obtain ⟨q, a, b, c, d⟩ := has_y (N := N) (w := 56) ((((hT.lx b0).lx b1).lx b2).lx b3) hen hN c3 (by decide) y
  refine ⟨q, ?_, ((((b0.trans b1).trans b2).trans b3).trans b), ML.at (lw_b m.le).2 c d⟩
  unfold f_R_part_52
  rw [a0, ob, if_pos rfl]
  dsimp only
  rw [a1, ob, if_pos rfl]
  dsimp only
  rw [a2, ob, if_pos rfl]
  dsimp only
  rw [a3, ob, if_pos rfl]
  dsimp only
  rw [a, ob, if_neg (show ¬ ((1 : Int32), q).1 = 0 from i1n)]
  unfold f_R_part_131
  dsimp only
  rw [if_neg (by decide), show rld q 14 4 = some (q.2 14 4) from y14 (k := 4) (by decide), ob, (((((b0.trans b1).trans b2).trans b3).trans b)).1]
theorem part_m5 (hT : TXm r tx en) (hen : en ≤ 400) (hN : 500 < N) (m : ML r tx en i) (n0 : ¬ wAt tx en i (s_byt 52)) (n1 : ¬ wAt tx en i (s_byt 53)) (n2 : ¬ wAt tx en i (s_byt 54)) (n3 : ¬ wAt tx en i (s_byt 55)) (n4 : ¬ wAt tx en i (s_byt 56)) (y : wAt tx en i (s_byt 57)) : ∃ q, f_R_part_52 N r = some (r.2 14 5, q) ∧ Lx r q ∧ ML q tx en (skN tx en (lwE tx en i)) := by
  obtain ⟨q0, a0, b0, c0⟩ := has_n (N := N) (w := 52) hT hen hN m (by decide) n0
  obtain ⟨q1, a1, b1, c1⟩ := has_n (N := N) (w := 53) (hT.lx b0) hen hN c0 (by decide) n1
  obtain ⟨q2, a2, b2, c2⟩ := has_n (N := N) (w := 54) ((hT.lx b0).lx b1) hen hN c1 (by decide) n2
  obtain ⟨q3, a3, b3, c3⟩ := has_n (N := N) (w := 55) (((hT.lx b0).lx b1).lx b2) hen hN c2 (by decide) n3
  obtain ⟨q4, a4, b4, c4⟩ := has_n (N := N) (w := 56) ((((hT.lx b0).lx b1).lx b2).lx b3) hen hN c3 (by decide) n4
  obtain ⟨q, a, b, c, d⟩ := has_y (N := N) (w := 57) (((((hT.lx b0).lx b1).lx b2).lx b3).lx b4) hen hN c4 (by decide) y
  refine ⟨q, ?_, (((((b0.trans b1).trans b2).trans b3).trans b4).trans b), ML.at (lw_b m.le).2 c d⟩
  unfold f_R_part_52
  rw [a0, ob, if_pos rfl]
  dsimp only
  rw [a1, ob, if_pos rfl]
  dsimp only
  rw [a2, ob, if_pos rfl]
  dsimp only
  rw [a3, ob, if_pos rfl]
  dsimp only
  rw [a4, ob, if_pos rfl]
  dsimp only
  rw [a, ob, if_neg (show ¬ ((1 : Int32), q).1 = 0 from i1n)]
  unfold f_R_part_131
  dsimp only
  rw [if_neg (by decide), show rld q 14 5 = some (q.2 14 5) from y14 (k := 5) (by decide), ob, ((((((b0.trans b1).trans b2).trans b3).trans b4).trans b)).1]
theorem part_m6 (hT : TXm r tx en) (hen : en ≤ 400) (hN : 500 < N) (m : ML r tx en i) (n0 : ¬ wAt tx en i (s_byt 52)) (n1 : ¬ wAt tx en i (s_byt 53)) (n2 : ¬ wAt tx en i (s_byt 54)) (n3 : ¬ wAt tx en i (s_byt 55)) (n4 : ¬ wAt tx en i (s_byt 56)) (n5 : ¬ wAt tx en i (s_byt 57)) : ∃ q, f_R_part_52 N r = some (0, q) ∧ Lx r q ∧ MD q (iN i) 6 := by
  obtain ⟨q0, a0, b0, c0⟩ := has_n (N := N) (w := 52) hT hen hN m (by decide) n0
  obtain ⟨q1, a1, b1, c1⟩ := has_n (N := N) (w := 53) (hT.lx b0) hen hN c0 (by decide) n1
  obtain ⟨q2, a2, b2, c2⟩ := has_n (N := N) (w := 54) ((hT.lx b0).lx b1) hen hN c1 (by decide) n2
  obtain ⟨q3, a3, b3, c3⟩ := has_n (N := N) (w := 55) (((hT.lx b0).lx b1).lx b2) hen hN c2 (by decide) n3
  obtain ⟨q4, a4, b4, c4⟩ := has_n (N := N) (w := 56) ((((hT.lx b0).lx b1).lx b2).lx b3) hen hN c3 (by decide) n4
  obtain ⟨q5, a5, b5, c5, e11⟩ := has_n2 (N := N) (w := 57) (((((hT.lx b0).lx b1).lx b2).lx b3).lx b4) hen hN c4 (by decide) n5
  refine ⟨r_set q5 12 (iN i), ?_, (((((b0.trans b1).trans b2).trans b3).trans b4).trans b5).trans (Lx.s12 _ _), set_s _ _ _, i, by have := m.le; omega, ?_⟩
  · unfold f_R_part_52
    rw [a0, ob, if_pos rfl]
    dsimp only
    rw [a1, ob, if_pos rfl]
    dsimp only
    rw [a2, ob, if_pos rfl]
    dsimp only
    rw [a3, ob, if_pos rfl]
    dsimp only
    rw [a4, ob, if_pos rfl]
    dsimp only
    rw [a5, ob, if_pos rfl]
    dsimp only
    unfold f_R_part_131
    rw [if_pos rfl, e11, wrong_md c5.1, ob]
  · exact e11
theorem part_sim (hen : en ≤ 400) (hN : 500 < N) (hD6 : D ≤ 6) : SimL rd xx a en tx 1 D False (f_LR_readPart N rd) (f_R_part N) := by
  intro K i t n s H hs
  have hi := H.ie
  unfold f_LR_readPart
  rw [H.A.fc, ob]
  rcases takeWord_2 (N := N) H.A H.x hen hN H.C (w := 10) (by decide) with ⟨-, h0, L, l1, l2, l3⟩ | ⟨h0, l20⟩
  · have hgt := lw_gt hi (w := 10) (by decide) h0
    obtain ⟨hlt, hL, hD⟩ := wAt_L hi (w := 10) (by decide) h0
    have H1 := H.rq l2 l3
    obtain ⟨L2, c1, H2, S2, c2⟩ := part_80 (N := N) H1 hen (by omega) (y := 1) (by decide) (by decide)
    refine ⟨L2, _, _, _, _, ?_, H2, (H.st l2).trans S2, Nat.le_of_lt hgt, fun _ => ⟨by omega, hgt, fun F => ⟨_, c2 F⟩⟩, fun r hT m _ _ => ?_⟩
    · rw [l1, ob, if_neg (show ¬ ((1 : Int32), L).1 = 0 from i1n)]
      exact c1
    · obtain ⟨q, m1, m2, m3⟩ := part_52 (N := N) hT hen hN m (fun z => by rw [hD] at z; exact Bool.noConfusion z.2)
      obtain ⟨q2, m4, m5, m6⟩ := part_m0 (N := N) (hT.lx m2) hen hN m3 h0
      refine ⟨_, q2, by rw [m1, m4, m2.1]; rfl, m2.trans m5, MS.l m6, fun z => z.elim, fun _ => c2 (fcR r)⟩
  have n0 : ¬ wAt tx en i (s_byt 52) := fun h => h0 ⟨rfl, h⟩
  rw [l20, ob, if_pos rfl]
  dsimp only
  rw [H.A.fc, ob]
  rcases takeWord_2 (N := N) H.A H.x hen hN H.C (w := 11) (by decide) with ⟨-, h1, L, l1, l2, l3⟩ | ⟨h1, l21⟩
  · have hgt := lw_gt hi (w := 11) (by decide) h1
    obtain ⟨hlt, hL, hD⟩ := wAt_L hi (w := 11) (by decide) h1
    have H1 := H.rq l2 l3
    obtain ⟨L2, c1, H2, S2, c2⟩ := part_80 (N := N) H1 hen (by omega) (y := 2) (by decide) (by decide)
    refine ⟨L2, _, _, _, _, ?_, H2, (H.st l2).trans S2, Nat.le_of_lt hgt, fun _ => ⟨by omega, hgt, fun F => ⟨_, c2 F⟩⟩, fun r hT m _ _ => ?_⟩
    · rw [l1, ob, if_neg (show ¬ ((1 : Int32), L).1 = 0 from i1n)]
      exact c1
    · obtain ⟨q, m1, m2, m3⟩ := part_52 (N := N) hT hen hN m (fun z => by rw [hD] at z; exact Bool.noConfusion z.2)
      obtain ⟨q2, m4, m5, m6⟩ := part_m1 (N := N) (hT.lx m2) hen hN m3 n0 h1
      refine ⟨_, q2, by rw [m1, m4, m2.1]; rfl, m2.trans m5, MS.l m6, fun z => z.elim, fun _ => c2 (fcR r)⟩
  have n1 : ¬ wAt tx en i (s_byt 53) := fun h => h1 ⟨rfl, h⟩
  rw [l21, ob, if_pos rfl]
  dsimp only
  rw [H.A.fc, ob]
  rcases takeWord_2 (N := N) H.A H.x hen hN H.C (w := 12) (by decide) with ⟨-, h2, L, l1, l2, l3⟩ | ⟨h2, l22⟩
  · have hgt := lw_gt hi (w := 12) (by decide) h2
    obtain ⟨hlt, hL, hD⟩ := wAt_L hi (w := 12) (by decide) h2
    have H1 := H.rq l2 l3
    obtain ⟨L2, c1, H2, S2, c2⟩ := part_80 (N := N) H1 hen (by omega) (y := 3) (by decide) (by decide)
    refine ⟨L2, _, _, _, _, ?_, H2, (H.st l2).trans S2, Nat.le_of_lt hgt, fun _ => ⟨by omega, hgt, fun F => ⟨_, c2 F⟩⟩, fun r hT m _ _ => ?_⟩
    · rw [l1, ob, if_neg (show ¬ ((1 : Int32), L).1 = 0 from i1n)]
      exact c1
    · obtain ⟨q, m1, m2, m3⟩ := part_52 (N := N) hT hen hN m (fun z => by rw [hD] at z; exact Bool.noConfusion z.2)
      obtain ⟨q2, m4, m5, m6⟩ := part_m2 (N := N) (hT.lx m2) hen hN m3 n0 n1 h2
      refine ⟨_, q2, by rw [m1, m4, m2.1]; rfl, m2.trans m5, MS.l m6, fun z => z.elim, fun _ => c2 (fcR r)⟩
  have n2 : ¬ wAt tx en i (s_byt 54) := fun h => h2 ⟨rfl, h⟩
  rw [l22, ob, if_pos rfl]
  dsimp only
  rw [H.A.fc, ob]
  rcases takeWord_2 (N := N) H.A H.x hen hN H.C (w := 13) (by decide) with ⟨-, h3, L, l1, l2, l3⟩ | ⟨h3, l23⟩
  · have hgt := lw_gt hi (w := 13) (by decide) h3
    obtain ⟨hlt, hL, hD⟩ := wAt_L hi (w := 13) (by decide) h3
    have H1 := H.rq l2 l3
    obtain ⟨L2, c1, H2, S2, c2⟩ := part_80 (N := N) H1 hen (by omega) (y := 4) (by decide) (by decide)
    refine ⟨L2, _, _, _, _, ?_, H2, (H.st l2).trans S2, Nat.le_of_lt hgt, fun _ => ⟨by omega, hgt, fun F => ⟨_, c2 F⟩⟩, fun r hT m _ _ => ?_⟩
    · rw [l1, ob, if_neg (show ¬ ((1 : Int32), L).1 = 0 from i1n)]
      exact c1
    · obtain ⟨q, m1, m2, m3⟩ := part_52 (N := N) hT hen hN m (fun z => by rw [hD] at z; exact Bool.noConfusion z.2)
      obtain ⟨q2, m4, m5, m6⟩ := part_m3 (N := N) (hT.lx m2) hen hN m3 n0 n1 n2 h3
      refine ⟨_, q2, by rw [m1, m4, m2.1]; rfl, m2.trans m5, MS.l m6, fun z => z.elim, fun _ => c2 (fcR r)⟩
  have n3 : ¬ wAt tx en i (s_byt 55) := fun h => h3 ⟨rfl, h⟩
  rw [l23, ob, if_pos rfl]
  dsimp only
  rw [H.A.fc, ob]
  rcases takeWord_2 (N := N) H.A H.x hen hN H.C (w := 14) (by decide) with ⟨-, h4, L, l1, l2, l3⟩ | ⟨h4, l24⟩
  · have hgt := lw_gt hi (w := 14) (by decide) h4
    obtain ⟨hlt, hL, hD⟩ := wAt_L hi (w := 14) (by decide) h4
    have H1 := H.rq l2 l3
    obtain ⟨L2, c1, H2, S2, c2⟩ := part_80 (N := N) H1 hen (by omega) (y := 5) (by decide) (by decide)
    refine ⟨L2, _, _, _, _, ?_, H2, (H.st l2).trans S2, Nat.le_of_lt hgt, fun _ => ⟨by omega, hgt, fun F => ⟨_, c2 F⟩⟩, fun r hT m _ _ => ?_⟩
    · rw [l1, ob, if_neg (show ¬ ((1 : Int32), L).1 = 0 from i1n)]
      exact c1
    · obtain ⟨q, m1, m2, m3⟩ := part_52 (N := N) hT hen hN m (fun z => by rw [hD] at z; exact Bool.noConfusion z.2)
      obtain ⟨q2, m4, m5, m6⟩ := part_m4 (N := N) (hT.lx m2) hen hN m3 n0 n1 n2 n3 h4
      refine ⟨_, q2, by rw [m1, m4, m2.1]; rfl, m2.trans m5, MS.l m6, fun z => z.elim, fun _ => c2 (fcR r)⟩
  have n4 : ¬ wAt tx en i (s_byt 56) := fun h => h4 ⟨rfl, h⟩
  rw [l24, ob, if_pos rfl]
  dsimp only
  rw [H.A.fc, ob]
  rcases takeWord_2 (N := N) H.A H.x hen hN H.C (w := 15) (by decide) with ⟨-, h5, L, l1, l2, l3⟩ | ⟨h5, l25⟩
  · have hgt := lw_gt hi (w := 15) (by decide) h5
    obtain ⟨hlt, hL, hD⟩ := wAt_L hi (w := 15) (by decide) h5
    have H1 := H.rq l2 l3
    obtain ⟨L2, c1, H2, S2, c2⟩ := part_80 (N := N) H1 hen (by omega) (y := 6) (by decide) (by decide)
    refine ⟨L2, _, _, _, _, ?_, H2, (H.st l2).trans S2, Nat.le_of_lt hgt, fun _ => ⟨by omega, hgt, fun F => ⟨_, c2 F⟩⟩, fun r hT m _ _ => ?_⟩
    · rw [l1, ob, if_neg (show ¬ ((1 : Int32), L).1 = 0 from i1n)]
      exact c1
    · obtain ⟨q, m1, m2, m3⟩ := part_52 (N := N) hT hen hN m (fun z => by rw [hD] at z; exact Bool.noConfusion z.2)
      obtain ⟨q2, m4, m5, m6⟩ := part_m5 (N := N) (hT.lx m2) hen hN m3 n0 n1 n2 n3 n4 h5
      refine ⟨_, q2, by rw [m1, m4, m2.1]; rfl, m2.trans m5, MS.l m6, fun z => z.elim, fun _ => c2 (fcR r)⟩
  have n5 : ¬ wAt tx en i (s_byt 57) := fun h => h5 ⟨rfl, h⟩
  rw [l25, ob, if_pos rfl]
  dsimp only
  unfold f_LR_readPart_80
  rw [H.g6, ob, if_pos rfl, H.A.fc, ob]
  rcases readNumber_2 (N := N) H.A H.x hen hN H.C 0 (by decide) 999 with ⟨-, g1, L, l1, l2, l3⟩ | ⟨g1, L, l1, l2, l3⟩
  · have l1 : f_TxR_readNumber_2 N rd 0 999 K = some (iN (dvN tx i (dgE tx en i)), L) := l1
    obtain ⟨hlt, hD⟩ := dg_ne hi g1.1
    have hdb := dg_b (tx := tx) hi
    have hsd := sk_b (tx := tx) hdb.2
    have hgn := dg_n hlt hD
    have H1 := H.rq l2 l3
    obtain ⟨L2, s2, c1, H2, S2, c2⟩ := addStep_cl H1 hen 0 (iN (dvN tx i (dgE tx en i)))
    obtain ⟨rfl, c3, c4⟩ := c2 (by omega)
    have sg : ∀ F, Seg F (m_iv L2 (a + 4)) (m_iv L2 (a + 5)) s (s + 1) 1 (iN (dvN tx i (dgE tx en i))) := fun F => by
      have h := Seg.push (F := F) (s := m_iv L2 (a + 4)) (u := m_iv L2 (a + 5)) (i := s) (by rw [c3]; decide)
      rw [c3, if_pos rfl, c4] at h
      exact h
    refine ⟨L2, _, _, _, _, ?_, H2, (H.st l2).trans S2, by omega, fun _ => ⟨by omega, by omega, fun F => ⟨_, sg F⟩⟩, fun r hT m _ _ => ?_⟩
    · rw [l1, ob]
      unfold f_LR_readPart_102
      dsimp only
      rw [H1.W.c0, ob, c1, ob]
    · obtain ⟨q, m1, m2, m3⟩ := part_num (N := N) hT hen hN m hlt hD
      obtain ⟨q2, m4, m5, m6, m7⟩ := fig_y (N := N) (hT.lx m2) hen hN m3 (lo := 0) (by decide) g1
      have m4 : f_R_figures N 0 999 q = some (iN (dvN tx i (dgE tx en i)), q2) := m4
      exact ⟨iN (dvN tx i (dgE tx en i)), q2, by rw [m1, m4, ob], m2.trans m5, MS.l (ML.at hdb.2 m6 m7), fun z => z.elim, fun _ => sg (fcR r)⟩
  · have l1 : f_TxR_readNumber_2 N rd 0 999 K = some (-1, L) := l1
    rw [if_pos rfl] at l3
    have hne : iN i ≠ -1 := iN_m1 (by omega)
    have H1 := H.rq l2 l3
    obtain ⟨L2, s2, c1, H2, S2, -⟩ := addStep_cl H1 hen 0 (-1)
    refine ⟨L2, _, _, _, _, ?_, H2, (H.st l2).trans S2, Nat.le_refl _, fun z => absurd z hne, fun r hT m _ _ => ?_⟩
    · rw [l1, ob]
      unfold f_LR_readPart_102
      dsimp only
      rw [H1.W.c0, ob, c1, ob]
    · by_cases hd : i < en ∧ isD (tx i) = true
      · obtain ⟨q, m1, m2, m3⟩ := part_num (N := N) hT hen hN m hd.1 hd.2
        obtain ⟨v, q2, m4, m5, m6⟩ := fig_n (N := N) (hT.lx m2) hen hN m3 (lo := 0) (by decide) (fun z => g1 ⟨rfl, z⟩)
        have m4 : f_R_figures N 0 999 q = some (v, q2) := m4
        exact ⟨v, q2, by rw [m1, m4, ob], m2.trans m5, (MS.d hi hen m6).mono hD6, fun z => z.elim, fun z => absurd z hne⟩
      · obtain ⟨q, m1, m2, m3⟩ := part_52 (N := N) hT hen hN m hd
        obtain ⟨q2, m4, m5, m6⟩ := part_m6 (N := N) (hT.lx m2) hen hN m3 n0 n1 n2 n3 n4 n5
        exact ⟨0, q2, by rw [m1, m4], m2.trans m5, (MS.d hi hen m6).mono hD6, fun z => z.elim, fun z => absurd z hne⟩
theorem part_dead (hen : en ≤ 400) (hN : 500 < N) : DeadL rd xx a en tx (f_LR_readPart N rd) := by
  intro K i t fl n s hf H
  have tw : ∀ (w : Nat), wdB w = true → f_TxR_takeWord_2 N rd w K = some (0, K) := fun w hw => by
    rcases takeWord_2 (N := N) H.A H.x hen hN H.C hw with ⟨g1, -⟩ | ⟨-, g2⟩
    · exact absurd g1 hf
    · exact g2
  rcases readNumber_2 (N := N) H.A H.x hen hN H.C 0 (by decide) 999 with ⟨g1, -⟩ | ⟨-, L, l1, l2, l3⟩
  · exact absurd g1 hf
  have l1 : f_TxR_readNumber_2 N rd 0 999 K = some (-1, L) := l1
  rw [if_neg hf] at l3
  have H1 := H.rq l2 l3
  obtain ⟨L2, s2, c1, H2, S2, -⟩ := addStep_cl H1 hen 0 (-1)
  refine ⟨L2, s2, ?_, H2, (H.st l2).trans S2⟩
  unfold f_LR_readPart
  rw [H.A.fc, ob, tw 10 (by decide), ob, if_pos rfl]
  dsimp only
  rw [H.A.fc, ob, tw 11 (by decide), ob, if_pos rfl]
  dsimp only
  rw [H.A.fc, ob, tw 12 (by decide), ob, if_pos rfl]
  dsimp only
  rw [H.A.fc, ob, tw 13 (by decide), ob, if_pos rfl]
  dsimp only
  rw [H.A.fc, ob, tw 14 (by decide), ob, if_pos rfl]
  dsimp only
  rw [H.A.fc, ob, tw 15 (by decide), ob, if_pos rfl]
  dsimp only
  unfold f_LR_readPart_80 f_LR_readPart_102
  rw [H.g6, ob, if_pos rfl, H.A.fc, ob, l1, ob]
  dsimp only
  rw [H1.W.c0, ob, c1, ob]
end Pt
