section At
variable {N en i j k p t w b rd xx a n s s0 D : Nat} {tx : Nat → Int32} {K L M : Mem} {f fl v u : Int32} {r q : Rho} {dp : Nat → Int32 → Int32 → Mem → Option Mem} {a0 : Int32}
theorem atom_dead (hen : en ≤ 400) (hN : 500 < N) : DeadL rd xx a en tx (f_LR_readAtom N dp rd a0) := by
  intro K i t fl n s hf H
  obtain ⟨L, s', c1, H1, S1⟩ := pl_dead (N := N) (rd := rd) (xx := xx) (a := a) (tx := tx) (dp := dp) (a0 := a0) hen hN K i t fl n s hf H
  refine ⟨L, s', ?_, H1, S1⟩
  unfold f_LR_readAtom
  rw [H.A.fc, ob, tw_dead H hen hN hf (by decide), ob, if_pos rfl]
  dsimp only
  rw [H.A.fc, ob, ts_dead H hen hN hf (by decide) (by decide), ob, if_pos rfl]
  exact c1
theorem Lx.deep {u : Rho} {v w : Int32} (hr : Lx r u) (h : Lx (r_set u 13 v) q) (hw : w = r.1 13) : Lx r (r_set q 13 w) := by
  refine ⟨h.1.trans hr.1, fun j a b => ?_⟩
  by_cases hj : j = 13
  · rw [hj, set_s, hw]
  · rw [set_f hj, h.2 j a b, set_f hj, hr.2 j a b]
theorem not_01 {v : Int32} (h : v = 0 ∨ v = 1) : (if v = 0 then (1 : Int32) else 0) = 1 - v := by rcases h with rfl | rfl <;> rfl
theorem atom_sim (hen : en ≤ 400) (hN : 500 < N) : ∀ e, e ≤ 6 → SimL rd xx a en tx (3 + 2 * e) (6 - e) True (f_LR_readAtom N (f_LR_readDeeper N (4 + e)) rd (iN (6 - e))) (f_R_atom N (4 + e)) := by
  intro e
  induction e with
  | zero =>
    intro _ K i t n s H hs
    have hi := H.ie
    have hne : iN i ≠ -1 := iN_m1 (by omega)
    -- too deep
    have deep : ∀ {L1 : Mem} {i1 : Nat}, LRS L1 rd xx a en tx i1 i (-1) n s → i ≤ i1 → St rd a K L1 s s → ∀ x2 : Int32, ∃ L, f_LR_readAtom_20 N (f_LR_readDeeper N (4 + 0)) rd (iN (6 - 0)) x2 L1 = some L ∧ LRS L rd xx a en tx i1 i (iN i) n s ∧ St rd a K L s s := fun {L1 i1} H1 hii S1 x2 => by
      obtain ⟨L, l1, l2, l3⟩ := takenIsWrong_2 H1.A H1.C
      rw [if_pos rfl] at l3
      refine ⟨L, ?_, H1.rq l2 l3, S1.trans (H1.st l2)⟩
      unfold f_LR_readAtom_20
      rw [H1.A.fc, ob, show (4 + 0 : Nat) = 3 + 1 from rfl, f_LR_readDeeper, if_neg (show ¬ iN (6 - 0) + 1 ≤ (6 : Int32) by decide), H1.A.fc, ob, l1, ob, ob]
    have m40 : ∀ (r u : Rho) (x2 : Int32) (fr : Rho → Option (Int32 × Rho)), Lx r u → u.1 12 = -1 → (∃ j, j ≤ en ∧ u.1 11 = iN j) → r.1 13 = iN (6 - 0) → ∃ q, f_R_atom_40 N fr (iN i) x2 u = some (0, q) ∧ Lx r q ∧ MD q (iN i) (6 - 0) := fun r u x2 fr lu u12 hj d => by
      obtain ⟨j, hj1, hj2⟩ := hj
      refine ⟨r_set u 12 (iN i), ?_, lu.trans (Lx.s12 _ _), set_s _ _ _, j, by omega, hj2⟩
      unfold f_R_atom_40
      rw [lu.2 13 (by decide) (by decide), d, if_pos (show iN (6 - 0) = 6 from rfl), wrong_md u12, ob]
    unfold f_LR_readAtom
    rw [H.A.fc, ob]
    rcases takeWord_2 (N := N) H.A H.x hen hN H.C (w := 7) (by decide) with ⟨-, h1, L1, l1, l2, l3⟩ | ⟨h1, l1⟩
    · have hgt := lw_gt hi (w := 7) (by decide) h1
      obtain ⟨L, c1, H2, S2⟩ := deep (H.rq l2 l3) (Nat.le_of_lt hgt) (H.st l2) 1
      rw [l1, ob, if_neg (show ¬ ((1 : Int32), L1).1 = 0 from i1n)]
      refine ⟨L, _, _, _, _, c1, H2, S2, Nat.le_of_lt hgt, fun z => absurd z hne, fun r hT m _ d => ?_⟩
      obtain ⟨q0, m1, m2, m3, m4⟩ := skip_ml hT hen hN m
      obtain ⟨q1, p1, p2, p3, p4⟩ := has_y (N := N) (w := 49) (hT.lx m2) hen hN (ML.at0 hi m.sk m3 m4) (by decide) h1
      obtain ⟨q, o1, o2, o3⟩ := m40 r q1 1 (f_R_atom N 3) (m2.trans p2) p3 ⟨_, (lw_b hi).2, p4⟩ d
      refine ⟨0, q, ?_, o2, MS.d hi hen o3, fun _ => Or.inl rfl, fun z => absurd z hne⟩
      rw [show (4 + 0 : Nat) = 3 + 1 from rfl, f_R_atom, if_pos m.1]
      unfold f_R_place
      rw [m1, ob, ob, m4]
      dsimp only
      rw [p1, ob, if_neg (show ¬ ((1 : Int32), q1).1 = 0 from i1n)]
      exact o1
    have n7 : ¬ wAt tx en i (s_byt 49) := fun h => h1 ⟨rfl, h⟩
    rw [l1, ob, if_pos rfl]
    dsimp only
    rw [H.A.fc, ob]
    rcases takeSign_2 (N := N) H.A H.x hen hN H.C (c := 40) (by decide) (by decide) with ⟨-, g1, g2, L1, k1, k2, k3⟩ | ⟨g1, k1⟩
    · have hsb := sk_b (tx := tx) (show i + 1 ≤ en by omega)
      obtain ⟨L, c1, H2, S2⟩ := deep (H.rq k2 k3) (by omega) (H.st k2) 0
      rw [k1, ob, if_neg (show ¬ ((1 : Int32), L1).1 = 0 from i1n)]
      refine ⟨L, _, _, _, _, c1, H2, S2, by omega, fun z => absurd z hne, fun r hT m _ d => ?_⟩
      obtain ⟨q0, m1, m2, m3, m4⟩ := skip_ml hT hen hN m
      obtain ⟨q1, p1, p2, p3⟩ := has_n (N := N) (w := 49) (hT.lx m2) hen hN (ML.at0 hi m.sk m3 m4) (by decide) n7
      obtain ⟨q2, u1, u2, u3, u4⟩ := sign_y (N := N) (c := 40) ((hT.lx m2).lx p2) hen hN p3 g1 g2
      obtain ⟨q, o1, o2, o3⟩ := m40 r q2 0 (f_R_atom N 3) ((m2.trans p2).trans u2) u3 ⟨_, hi, u4⟩ d
      refine ⟨0, q, ?_, o2, MS.d hi hen o3, fun _ => Or.inl rfl, fun z => absurd z hne⟩
      rw [show (4 + 0 : Nat) = 3 + 1 from rfl, f_R_atom, if_pos m.1]
      unfold f_R_place
      rw [m1, ob, ob, m4]
      dsimp only
      rw [p1, ob, if_pos rfl]
      dsimp only
      rw [u1, ob, if_neg (show ¬ ((1 : Int32), q2).1 = 0 from i1n)]
      exact o1
    rw [k1, ob, if_pos rfl]
    obtain ⟨L, i', t', f', s', c1, c2, c3, c4, c5, c6⟩ := pl_sim (N := N) (rd := rd) (xx := xx) (a := a) (tx := tx) (D := 6 - 0) (dp := f_LR_readDeeper N (4 + 0)) (a0 := iN (6 - 0)) hen hN (by decide) K i t n s H hs
    refine ⟨L, i', t', f', s', c1, c2, c3, c4, c5, fun r hT m z d => ?_⟩
    obtain ⟨q0, m1, m2, m3, m4⟩ := skip_ml hT hen hN m
    obtain ⟨q1, p1, p2, p3⟩ := has_n (N := N) (w := 49) (hT.lx m2) hen hN (ML.at0 hi m.sk m3 m4) (by decide) n7
    obtain ⟨q2, u1, u2, u3, -⟩ := sign_n (N := N) (c := 40) ((hT.lx m2).lx p2) hen hN p3 (fun y => g1 ⟨rfl, y⟩)
    have lx := (m2.trans p2).trans u2
    obtain ⟨v, q, o1, o2, o3, o4, o5⟩ := c6 q2 (hT.lx lx) u3 (z.lx lx) ((lx.2 13 (by decide) (by decide)).trans d)
    refine ⟨v, q, ?_, lx.trans o2, o3, o4, fun hf => by rw [← fcR_lx lx]; exact o5 hf⟩
    rw [show (4 + 0 : Nat) = 3 + 1 from rfl, f_R_atom, if_pos m.1]
    unfold f_R_place
    rw [m1, ob, ob, m4]
    dsimp only
    rw [p1, ob, if_pos rfl]
    dsimp only
    rw [u1, ob, if_pos rfl]
    dsimp only
    rw [o1, ob]
    dsimp only
    rw [zg_01 (o4 trivial), ob]
  | succ e ih =>
    intro he K i t n s H hs
    have AT := ih (by omega)
    have hi := H.ie
    have eD : iN (6 - (e + 1)) + 1 = iN (6 - e) := by rw [iN_s]; exact congrArg iN (by omega)
    have hle6 : iN (6 - e) ≤ (6 : Int32) := iN_yle (n := 6 - e) (k := 6) (by omega) (by decide)
    have eF : 4 + (e + 1) = (4 + e) + 1 := by omega
    unfold f_LR_readAtom
    rw [H.A.fc, ob]
    rcases takeWord_2 (N := N) H.A H.x hen hN H.C (w := 7) (by decide) with ⟨-, h1, L1, l1, l2, l3⟩ | ⟨h1, l1⟩
    · have hgt := lw_gt hi (w := 7) (by decide) h1
      have H1 := H.rq l2 l3
      obtain ⟨L2, i2, t2, f2, s2, c1, H2, S2, hi2, c2, c3⟩ := AT L1 _ _ n s H1 (by omega)
      obtain ⟨L3, s3, c4, H3, S3, c5⟩ := addStep_cl H2 hen 9 0
      have SS : St rd a K L3 s s3 := ((H.st l2).trans S2).trans S3
      have cl : f_LR_readAtom_20 N (f_LR_readDeeper N (4 + (e + 1))) rd (iN (6 - (e + 1))) 1 L1 = some L3 := by
        unfold f_LR_readAtom_20
        rw [H1.A.fc, ob, eF, f_LR_readDeeper, eD, if_pos hle6, if_neg i1n, H1.A.fc, ob, c1, ob, H2.g6, ob, H2.W.c0, ob, c4, ob, ob]
      have mdl : ∀ r, TXm r tx en → ML r tx en i → Bz r → r.1 13 = iN (6 - (e + 1)) → ∃ v q, f_R_atom N (4 + (e + 1)) r = some (1 - v, q) ∧ (v = 0 ∨ v = 1) ∧ Lx r q ∧ MS q tx en i2 f2 (6 - (e + 1)) ∧ (f2 = -1 → Seg (fcR r) (m_iv L2 (a + 4)) (m_iv L2 (a + 5)) s s2 (3 + 2 * e) v) := fun r hT m z d => by
        obtain ⟨q0, m1, m2, m3, m4⟩ := skip_ml hT hen hN m
        obtain ⟨q1, p1, p2, p3, p4⟩ := has_y (N := N) (w := 49) (hT.lx m2) hen hN (ML.at0 hi m.sk m3 m4) (by decide) h1
        have lx := m2.trans p2
        have d1 : q1.1 13 = iN (6 - (e + 1)) := (lx.2 13 (by decide) (by decide)).trans d
        have hT1 : TXm q1 tx en := hT.lx lx
        have hTs : TXm (r_set q1 13 (iN (6 - e))) tx en := hT1
        have hz1 : Bz q1 := z.lx lx
        have hzs : Bz (r_set q1 13 (iN (6 - e))) := hz1
        obtain ⟨v, q, o1, o2, o3, o4, o5⟩ := c3 (r_set q1 13 (iN (6 - e))) hTs (ML.at (lw_b hi).2 p3 p4) hzs (set_s _ _ _)
        have q13 : q.1 13 = iN (6 - e) := (o2.2 13 (by decide) (by decide)).trans (set_s _ _ _)
        have e13 : iN (6 - e) - 1 = r.1 13 := by rw [d, show iN (6 - e) - 1 = iN (6 - e - 1) from iN_sub (b := 1) (by omega)]; exact congrArg iN (by omega)
        have fcs : fcR (r_set q1 13 (iN (6 - e))) = fcR r := (show fcR (r_set q1 13 (iN (6 - e))) = fcR q1 from rfl).trans (fcR_lx lx)
        have o3' := o3.mono (E := 6 - (e + 1)) (by omega)
        refine ⟨v, r_set q 13 (iN (6 - e) - 1), ?_, o4 trivial, Lx.deep lx o2 e13, ⟨fun hf => o3'.1 hf, fun hf => o3'.2 hf⟩, fun hf => by rw [← fcs]; exact o5 hf⟩
        rw [eF, f_R_atom, if_pos m.1]
        unfold f_R_place
        rw [m1, ob, ob, m4]
        dsimp only
        rw [p1, ob, if_neg (show ¬ ((1 : Int32), q1).1 = 0 from i1n)]
        unfold f_R_atom_40 f_R_atom_84 f_R_atom_138
        dsimp only
        rw [d1, if_neg (show ¬ iN (6 - (e + 1)) = 6 from iN_ne (b := 6) (by omega) (by omega) (by decide)), if_neg i1n, eD, o1, ob]
        dsimp only
        rw [q13]
        rcases o4 trivial with rfl | rfl
        · rw [if_pos rfl]; rfl
        · rw [if_neg i1n]; rfl
      rw [l1, ob, if_neg (show ¬ ((1 : Int32), L1).1 = 0 from i1n)]
      dsimp only
      rw [cl]
      by_cases hf2 : f2 = -1
      · subst hf2
        obtain ⟨d1, d2, d3⟩ := c2 rfl
        have hi2e := H2.ie
        have hss := S2.2.2.1
        obtain ⟨rfl, d4, d5⟩ := c5 (by omega)
        have comb : ∀ F v, Seg F (m_iv L2 (a + 4)) (m_iv L2 (a + 5)) s s2 (3 + 2 * e) v → Seg F (m_iv L3 (a + 4)) (m_iv L3 (a + 5)) s (s2 + 1) (3 + 2 * (e + 1)) (1 - v) := fun F v g => (Seg.neg (S3.lo (Nat.le_refl _) g) d4).mono (by omega)
        refine ⟨L3, _, _, _, _, rfl, H3, SS, by omega, fun _ => ⟨by omega, by omega, fun F => ?_⟩, fun r hT m z d => ?_⟩
        · obtain ⟨v, g⟩ := d3 F
          exact ⟨_, comb F v g⟩
        · obtain ⟨v, q, p1, p2, p3, p4, p5⟩ := mdl r hT m z d
          exact ⟨1 - v, q, p1, p3, p4, fun _ => by rcases p2 with rfl | rfl <;> decide, fun _ => comb _ _ (p5 rfl)⟩
      · refine ⟨L3, _, _, _, _, rfl, H3, SS, by omega, fun z => absurd z hf2, fun r hT m z d => ?_⟩
        obtain ⟨v, q, p1, p2, p3, p4, p5⟩ := mdl r hT m z d
        exact ⟨1 - v, q, p1, p3, p4, fun _ => by rcases p2 with rfl | rfl <;> decide, fun z => absurd z hf2⟩
    have n7 : ¬ wAt tx en i (s_byt 49) := fun h => h1 ⟨rfl, h⟩
    rw [l1, ob, if_pos rfl]
    dsimp only
    rw [H.A.fc, ob]
    rcases takeSign_2 (N := N) H.A H.x hen hN H.C (c := 40) (by decide) (by decide) with ⟨-, g1, g2, L1, k1, k2, k3⟩ | ⟨g1, k1⟩
    · have hsb := sk_b (tx := tx) (show i + 1 ≤ en by omega)
      have H1 := H.rq k2 k3
      have ALL := all_sim (N := N) hen hN (show 1 ≤ 3 + 2 * e by omega) AT
      have ANY := any_sim (N := N) (gm := f_R_atom N (4 + e)) hen hN (show 1 ≤ 3 + 2 * e + 1 by omega) ALL
      obtain ⟨L2, i2, t2, f2, s2, c1, H2, S2, hi2, c2, c3⟩ := ANY L1 _ _ n s H1 (by omega)
      obtain ⟨L3, j1, j2, j3⟩ := readSign_2 (N := N) H2.A H2.x hen hN H2.C (c := 41) (by decide) (by decide)
      have hi2e := H2.ie
      have SS : St rd a K L3 s s2 := ((H.st k2).trans S2).trans (H2.st j2)
      have cl : f_LR_readAtom_20 N (f_LR_readDeeper N (4 + (e + 1))) rd (iN (6 - (e + 1))) 0 L1 = some L3 := by
        unfold f_LR_readAtom_20
        rw [H1.A.fc, ob, eF, f_LR_readDeeper, eD, if_pos hle6, if_pos rfl, H1.A.fc, ob, c1, ob, H2.A.fc, ob, j1, ob, ob]
      rw [k1, ob, if_neg (show ¬ ((1 : Int32), L1).1 = 0 from i1n)]
      dsimp only
      rw [cl]
      -- the model, to the ')'
      have mdl : ∀ r, TXm r tx en → ML r tx en i → Bz r → r.1 13 = iN (6 - (e + 1)) → ∃ v q, (v = 0 ∨ v = 1) ∧ f_R_atom N (4 + (e + 1)) r = (if (q.1 12) = (-1) then ((f_R_isSign N 41 q).bind fun z7 => if z7.1 = 0 then ((f_R_wrong (z7.2.1 11) z7.2).bind fun z8 => f_R_atom_128 N (f_R_atom N (4 + e)) v z8) else (f_R_atom_128 N (f_R_atom N (4 + e)) v z7.2)) else (f_R_atom_128 N (f_R_atom N (4 + e)) v q)) ∧ TXm q tx en ∧ MS q tx en i2 f2 (6 - e) ∧ (∀ u, Lx q u → ∀ y, f_R_atom_128 N (f_R_atom N (4 + e)) v u = some (v, r_set (r_set u 11 y) 13 (iN (6 - e) - 1)) ∨ y ≠ u.1 11 + 1) ∧ (∀ u, Lx q u → Lx r (r_set u 13 (iN (6 - e) - 1))) ∧ (f2 = -1 → Seg (fcR r) (m_iv L2 (a + 4)) (m_iv L2 (a + 5)) s s2 (3 + 2 * e + 1 + 1) v) := fun r hT m z d => by
        obtain ⟨q0, m1, m2, m3, m4⟩ := skip_ml hT hen hN m
        obtain ⟨q1, p1, p2, p3⟩ := has_n (N := N) (w := 49) (hT.lx m2) hen hN (ML.at0 hi m.sk m3 m4) (by decide) n7
        obtain ⟨q2, u1, u2, u3, u4⟩ := sign_y (N := N) (c := 40) ((hT.lx m2).lx p2) hen hN p3 g1 g2
        have lx := (m2.trans p2).trans u2
        have d1 : q2.1 13 = iN (6 - (e + 1)) := (lx.2 13 (by decide) (by decide)).trans d
        have lx2 : Lx (r_set q2 13 (iN (6 - e))) (r_set (r_set q2 13 (iN (6 - e))) 11 (iN (i + 1))) := Lx.s11 _ _
        have hT1 : TXm q2 tx en := hT.lx lx
        have hTs : TXm (r_set (r_set q2 13 (iN (6 - e))) 11 (iN (i + 1))) tx en := hT1
        have hz1 : Bz q2 := z.lx lx
        have hzs : Bz (r_set (r_set q2 13 (iN (6 - e))) 11 (iN (i + 1))) := hz1
        obtain ⟨v, q, o1, o2, o3, o4, o5⟩ := c3 (r_set (r_set q2 13 (iN (6 - e))) 11 (iN (i + 1))) hTs (ML.at (by omega) u3 (set_s _ _ _)) hzs rfl
        have lxq := lx2.trans o2
        have q13 : q.1 13 = iN (6 - e) := (lxq.2 13 (by decide) (by decide)).trans (set_s _ _ _)
        have e13 : iN (6 - e) - 1 = r.1 13 := by rw [d, show iN (6 - e) - 1 = iN (6 - e - 1) from iN_sub (b := 1) (by omega)]; exact congrArg iN (by omega)
        have fcs : fcR (r_set (r_set q2 13 (iN (6 - e))) 11 (iN (i + 1))) = fcR r := (show fcR (r_set (r_set q2 13 (iN (6 - e))) 11 (iN (i + 1))) = fcR q2 from rfl).trans (fcR_lx lx)
        refine ⟨v, q, o4 trivial, ?_, hTs.lx o2, o3, fun u hu y => ?_, fun u hu => Lx.deep lx (lxq.trans hu) e13, fun hf => by rw [← fcs]; exact o5 hf⟩
        · rw [eF, f_R_atom, if_pos m.1]
          unfold f_R_place
          rw [m1, ob, ob, m4]
          dsimp only
          rw [p1, ob, if_pos rfl]
          dsimp only
          rw [u1, ob, if_neg (show ¬ ((1 : Int32), q2).1 = 0 from i1n)]
          unfold f_R_atom_40
          dsimp only
          rw [d1, if_neg (show ¬ iN (6 - (e + 1)) = 6 from iN_ne (b := 6) (by omega) (by omega) (by decide)), if_pos rfl, eD, show (r_set q2 13 (iN (6 - e))).1 11 = iN i from u4, iN_s, o1, ob]
        · by_cases hy : y = u.1 11 + 1
          · left
            unfold f_R_atom_128 f_R_atom_138
            rw [zg_01 (o4 trivial), ob, hy]
            have u13 : (r_set u 11 (u.1 11 + 1)).1 13 = iN (6 - e) := (set_f (by decide)).trans ((hu.2 13 (by decide) (by decide)).trans q13)
            rw [u13]
          · exact Or.inr hy
      rcases j3 with ⟨hf2, j4, j5, j6⟩ | ⟨j4, j5⟩
      · subst hf2
        obtain ⟨d1, d2, d3⟩ := c2 rfl
        have hsb3 := sk_b (tx := tx) (show i2 + 1 ≤ en by omega)
        refine ⟨L3, _, _, _, _, rfl, H2.rq j2 j6, SS, by omega, fun _ => ⟨by omega, by omega, fun F => ?_⟩, fun r hT m z d => ?_⟩
        · obtain ⟨v, g⟩ := d3 F
          exact ⟨v, ((H2.st j2).lo (Nat.le_refl _) g).mono (by omega)⟩
        · obtain ⟨v, q, p1, p2, p3, p4, p5, p6, p7⟩ := mdl r hT m z d
          have mq := p4.1 rfl
          obtain ⟨u, u1, u2, u3, u4⟩ := sign_y (N := N) (c := 41) p3 hen hN mq j4 j5
          have e1 := (p5 u u2 (iN (i2 + 1))).resolve_right (fun w => w (by rw [u4, iN_s]))
          refine ⟨v, _, ?_, p6 _ (u2.trans (Lx.s11 u (iN (i2 + 1)))), MS.l (ML.at (by omega) u3 rfl), fun _ => p1, fun _ => ((H2.st j2).lo (Nat.le_refl _) (p7 rfl)).mono (by omega)⟩
          rw [p2, if_pos mq.1, u1, ob, if_neg (show ¬ ((1 : Int32), u).1 = 0 from i1n)]
          exact e1
      · have H3 := H2.rq j2 j5
        by_cases hf2 : f2 = -1
        · subst hf2
          rw [if_pos rfl] at H3
          have hne : iN i2 ≠ -1 := iN_m1 (by omega)
          refine ⟨L3, _, _, _, _, rfl, H3, SS, by omega, fun z => absurd z hne, fun r hT m z d => ?_⟩
          obtain ⟨v, q, p1, p2, p3, p4, p5, p6, p7⟩ := mdl r hT m z d
          have mq := p4.1 rfl
          obtain ⟨u, u1, u2, u3, u4⟩ := sign_n (N := N) (c := 41) p3 hen hN mq (fun w => j4 ⟨rfl, w⟩)
          have lu := u2.trans (Lx.s12 u (iN i2))
          have e1 := (p5 (r_set u 12 (iN i2)) lu (iN (i2 + 1))).resolve_right (fun w => w (by rw [set_f (by decide), u4, iN_s]))
          refine ⟨v, _, ?_, p6 _ (lu.trans (Lx.s11 _ (iN (i2 + 1)))), MS.d hi2e hen ⟨rfl, i2 + 1, by omega, rfl⟩, fun _ => p1, fun z => absurd z hne⟩
          rw [p2, if_pos mq.1, u1, ob, if_pos rfl]
          dsimp only
          rw [u4, wrong_md u3.1, ob]
          exact e1
        · rw [if_neg hf2] at H3
          refine ⟨L3, _, _, _, _, rfl, H3, SS, by omega, fun z => absurd z hf2, fun r hT m z d => ?_⟩
          obtain ⟨v, q, p1, p2, p3, p4, p5, p6, p7⟩ := mdl r hT m z d
          obtain ⟨b1, j, b2, b3⟩ := p4.2 hf2
          have hq : ¬ q.1 12 = -1 := by rw [b1]; exact hf2
          have e1 := (p5 q (Lx.refl q) (iN (j + 1))).resolve_right (fun w => w (by rw [b3, iN_s]))
          refine ⟨v, _, ?_, p6 _ (Lx.s11 q (iN (j + 1))), ⟨fun z => absurd z hf2, fun _ => ⟨b1, j + 1, by omega, rfl⟩⟩, fun _ => p1, fun z => absurd z hf2⟩
          rw [p2, if_neg hq]
          exact e1
    rw [k1, ob, if_pos rfl]
    obtain ⟨L, i', t', f', s', c1, c2, c3, c4, c5, c6⟩ := pl_sim (N := N) (rd := rd) (xx := xx) (a := a) (tx := tx) (D := 6 - (e + 1)) (dp := f_LR_readDeeper N (4 + (e + 1))) (a0 := iN (6 - (e + 1))) hen hN (by omega) K i t n s H hs
    refine ⟨L, i', t', f', s', c1, c2, c3, c4, fun hf => ⟨(c5 hf).1, (c5 hf).2.1, fun F => by
      obtain ⟨v, g⟩ := (c5 hf).2.2 F
      exact ⟨v, g.mono (by omega)⟩⟩, fun r hT m z d => ?_⟩
    obtain ⟨q0, m1, m2, m3, m4⟩ := skip_ml hT hen hN m
    obtain ⟨q1, p1, p2, p3⟩ := has_n (N := N) (w := 49) (hT.lx m2) hen hN (ML.at0 hi m.sk m3 m4) (by decide) n7
    obtain ⟨q2, u1, u2, u3, -⟩ := sign_n (N := N) (c := 40) ((hT.lx m2).lx p2) hen hN p3 (fun y => g1 ⟨rfl, y⟩)
    have lx := (m2.trans p2).trans u2
    obtain ⟨v, q, o1, o2, o3, o4, o5⟩ := c6 q2 (hT.lx lx) u3 (z.lx lx) ((lx.2 13 (by decide) (by decide)).trans d)
    refine ⟨v, q, ?_, lx.trans o2, o3, o4, fun hf => by rw [← fcR_lx lx]; exact (o5 hf).mono (by omega)⟩
    rw [eF, f_R_atom, if_pos m.1]
    unfold f_R_place
    rw [m1, ob, ob, m4]
    dsimp only
    rw [p1, ob, if_pos rfl]
    dsimp only
    rw [u1, ob, if_pos rfl]
    dsimp only
    rw [o1, ob]
    dsimp only
    rw [zg_01 (o4 trivial), ob]
end At
