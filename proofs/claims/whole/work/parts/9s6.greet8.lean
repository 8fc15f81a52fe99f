section Gc
variable {N en i j k p t w b rd xx D : Nat} {tx : Nat → Int32} {K L : Mem} {f lo hi c : Int32} {r q : Rho}
theorem greet_8 (A : RS_8 K rd xx) (hx : m_iv K xx = tx) (hen : en ≤ 400) (hN : 500 < N) (C : CS K rd en tx i t (-1)) : ∃ g L i' t' f', f_TxR_readGreeting_8 N rd K = some (g, L) ∧ Rq rd K L ∧ CS L rd en tx i' t' f' ∧ i ≤ i' ∧ (f' = -1 → i < i' ∧ nx g 32) ∧ ∀ r, TXm r tx en → ML r tx en i → ∃ v q, f_R_greeting N r = some (v, q) ∧ Lx r q ∧ MS q tx en i' f' 6 ∧ (f' = -1 → v = g) := by
  have hi := C.2.2.2.2.2.1
  have hx2 : ∀ {L : Mem}, Rq rd K L → m_iv L xx = tx := fun h => (h.2 xx (fun e => A.2.2.2 e.symm)).trans hx
  unfold f_TxR_readGreeting_8
  rw [A.fc, ob]
  rcases takeWord_8 (N := N) A hx hen hN C (w := 0) (by decide) with ⟨-, h1, L, l1, l2, l3⟩ | ⟨h1, l1⟩
  · rw [l1, ob, if_neg (show ¬ ((1 : Int32), L).1 = 0 from i1n)]
    refine ⟨0, L, _, _, _, rfl, l2, l3, Nat.le_of_lt (lw_gt hi (w := 0) (by decide) h1), fun _ => ⟨lw_gt hi (w := 0) (by decide) h1, 0, by decide, rfl⟩, fun r hT m => ?_⟩
    obtain ⟨q, m1, m2, m3, m4⟩ := has_y (N := N) (w := 42) hT hen hN m (by decide) h1
    exact ⟨0, q, by unfold f_R_greeting; rw [if_pos m.1, m1, ob, if_neg (show ¬ ((1 : Int32), q).1 = 0 from i1n)], m2, MS.l (ML.at (lw_b hi).2 m3 m4), fun _ => rfl⟩
  have n0 : ¬ wAt tx en i (s_byt 0) := fun h => h1 ⟨rfl, h⟩
  rw [l1, ob, if_pos rfl]
  dsimp only
  rw [A.fc, ob]
  rcases takeWord_8 (N := N) A hx hen hN C (w := 1) (by decide) with ⟨-, h2, L, l2, l3, l4⟩ | ⟨h2, l2⟩
  · rw [l2, ob, if_neg (show ¬ ((1 : Int32), L).1 = 0 from i1n)]
    refine ⟨8, L, _, _, _, rfl, l3, l4, Nat.le_of_lt (lw_gt hi (w := 1) (by decide) h2), fun _ => ⟨lw_gt hi (w := 1) (by decide) h2, 8, by decide, rfl⟩, fun r hT m => ?_⟩
    obtain ⟨q0, m1, m2, m3⟩ := has_n (N := N) (w := 42) hT hen hN m (by decide) n0
    obtain ⟨q, m4, m5, m6, m7⟩ := has_y (N := N) (w := 43) (hT.lx m2) hen hN m3 (by decide) h2
    refine ⟨8, q, ?_, m2.trans m5, MS.l (ML.at (lw_b hi).2 m6 m7), fun _ => rfl⟩
    unfold f_R_greeting
    rw [if_pos m.1, m1, ob, if_pos rfl]
    dsimp only
    rw [m4, ob, if_neg (show ¬ ((1 : Int32), q).1 = 0 from i1n)]
  have n1 : ¬ wAt tx en i (s_byt 1) := fun h => h2 ⟨rfl, h⟩
  rw [l2, ob, if_pos rfl]
  dsimp only
  rw [A.fc, ob]
  rcases takeWord_8 (N := N) A hx hen hN C (w := 2) (by decide) with ⟨-, h3, L, l3, l4, l5⟩ | ⟨h3, l3⟩
  · rw [l3, ob, if_neg (show ¬ ((1 : Int32), L).1 = 0 from i1n)]
    refine ⟨24, L, _, _, _, rfl, l4, l5, Nat.le_of_lt (lw_gt hi (w := 2) (by decide) h3), fun _ => ⟨lw_gt hi (w := 2) (by decide) h3, 24, by decide, rfl⟩, fun r hT m => ?_⟩
    obtain ⟨q0, m1, m2, m3⟩ := has_n (N := N) (w := 42) hT hen hN m (by decide) n0
    obtain ⟨q1, m4, m5, m6⟩ := has_n (N := N) (w := 43) (hT.lx m2) hen hN m3 (by decide) n1
    obtain ⟨q, m7, m8, m9, m10⟩ := has_y (N := N) (w := 44) ((hT.lx m2).lx m5) hen hN m6 (by decide) h3
    refine ⟨24, q, ?_, (m2.trans m5).trans m8, MS.l (ML.at (lw_b hi).2 m9 m10), fun _ => rfl⟩
    unfold f_R_greeting
    rw [if_pos m.1, m1, ob, if_pos rfl]
    dsimp only
    rw [m4, ob, if_pos rfl]
    dsimp only
    rw [m7, ob, if_neg (show ¬ ((1 : Int32), q).1 = 0 from i1n)]
  have n2 : ¬ wAt tx en i (s_byt 2) := fun h => h3 ⟨rfl, h⟩
  rw [l3, ob, if_pos rfl]
  dsimp only
  rw [A.fc, ob]
  have pre : ∀ r, TXm r tx en → ML r tx en i → ∃ q, Lx r q ∧ ML q tx en i ∧ TXm q tx en ∧ f_R_greeting N r = ((f_R_must N 45 q).bind fun z4 => (f_R_figures N 1 4 z4).bind fun z5 => if (z5.2.1 12) = (-1) then ((f_R_has_ N 46 z5.2).bind fun z6 => if z6.1 = 0 then ((f_R_must N 47 z6.2).bind fun z7 => f_R_greeting_85 N z5.1 z6.1 z7) else (f_R_greeting_85 N z5.1 z6.1 z6.2)) else (some (0, z5.2))) := fun r hT m => by
    obtain ⟨q0, m1, m2, m3⟩ := has_n (N := N) (w := 42) hT hen hN m (by decide) n0
    obtain ⟨q1, m4, m5, m6⟩ := has_n (N := N) (w := 43) (hT.lx m2) hen hN m3 (by decide) n1
    obtain ⟨q, m7, m8, m9⟩ := has_n (N := N) (w := 44) ((hT.lx m2).lx m5) hen hN m6 (by decide) n2
    refine ⟨q, (m2.trans m5).trans m8, m9, ((hT.lx m2).lx m5).lx m8, ?_⟩
    unfold f_R_greeting
    rw [if_pos m.1, m1, ob, if_pos rfl]
    dsimp only
    rw [m4, ob, if_pos rfl]
    dsimp only
    rw [m7, ob, if_pos rfl]
  obtain ⟨L1, k1, k2, k3⟩ := readWord_8 (N := N) A hx hen hN C (w := 3) (by decide)
  have A1 := A.q k2
  rw [k1, ob, A1.fc, ob]
  -- the three ways on
  have dead : ∀ {L : Mem} {i' t' : Nat} {p : Nat}, RS_8 L rd xx → Rq rd K L → p ≤ en → CS L rd en tx i' t' (iN p) → i ≤ i' → ∀ z5 : Int32, (∀ r, TXm r tx en → ML r tx en i → ∃ v q, f_R_greeting N r = some (v, q) ∧ Lx r q ∧ MD q (iN p) 6) → ∃ g L2 i' t' f', ((ck L 8 rd).bind fun _ => (f_TxR_takeWord_8 N rd 4 L).bind fun z6 => if z6.1 = 0 then ((ck z6.2 8 rd).bind fun _ => (f_TxR_readWord_8 N rd 5 z6.2).bind fun z7 => f_TxR_readGreeting_8_78 N rd z5 z6.1 z7) else (f_TxR_readGreeting_8_78 N rd z5 z6.1 z6.2)) = some (g, L2) ∧ Rq rd K L2 ∧ CS L2 rd en tx i' t' f' ∧ i ≤ i' ∧ (f' = -1 → i < i' ∧ nx g 32) ∧ ∀ r, TXm r tx en → ML r tx en i → ∃ v q, f_R_greeting N r = some (v, q) ∧ Lx r q ∧ MS q tx en i' f' 6 ∧ (f' = -1 → v = g) := by
    intro L i' t' p AL hq hp CL hii z5 hm
    have hne : iN p ≠ -1 := iN_m1 (by omega)
    rcases takeWord_8 (N := N) AL (hx2 hq) hen hN CL (w := 4) (by decide) with ⟨g1, -⟩ | ⟨-, g2⟩
    · exact absurd g1 hne
    · obtain ⟨L3, g3, g4, g5⟩ := readWord_8 (N := N) AL (hx2 hq) hen hN CL (w := 5) (by decide)
      rcases g5 with ⟨g6, -⟩ | ⟨-, g6⟩
      · exact absurd g6 hne
      · rw [if_neg hne] at g6
        refine ⟨-1, L3, i', t', iN p, ?_, hq.trans g4, g6, hii, fun h => absurd h hne, fun r hT m => ?_⟩
        · rw [AL.fc, ob, g2, ob, if_pos rfl]
          dsimp only
          rw [AL.fc, ob, g3, ob]
          unfold f_TxR_readGreeting_8_78
          rw [(AL.q g4).fi, ob, g6.1, if_neg hne]
        · obtain ⟨v, q, m1, m2, m3⟩ := hm r hT m
          exact ⟨v, q, m1, m2, MS.d hp hen m3, fun h => absurd h hne⟩
  rcases k3 with ⟨-, h4, C1⟩ | ⟨h4, C1⟩
  · have hgt := lw_gt hi (w := 3) (by decide) h4
    have hi1 := C1.2.2.2.2.2.1
    rcases readNumber_8 (N := N) A1 (hx2 k2) hen hN C1 1 (by decide) 4 with ⟨-, h5, L2, e1, e2, e3⟩ | ⟨h5, L2, e1, e2, e3⟩
    · have e1 : f_TxR_readNumber_8 N rd 1 4 L1 = some (iN (dvN tx (skN tx en (lwE tx en i)) (dgE tx en (skN tx en (lwE tx en i)))), L2) := e1
      rw [e1, ob]
      dsimp only
      have A2 := A1.q e2
      have hi2 := e3.2.2.2.2.2.1
      have hdb := dg_b (tx := tx) hi1
      have hsd := sk_b (tx := tx) hdb.2
      obtain ⟨g1, g2, g3, g4⟩ := id h5
      have hv4 : dvN tx (skN tx en (lwE tx en i)) (dgE tx en (skN tx en (lwE tx en i))) ≤ 4 := by
        have h999 := (dv_le (tx := tx) hdb.1 (by omega) (fun k a1 a2 => dg_all (en := en) a1 a2)).1
        exact (iN_le (by omega) (by decide)).mp g4
      obtain ⟨n, hn⟩ : ∃ n : Fin 4, dvN tx (skN tx en (lwE tx en i)) (dgE tx en (skN tx en (lwE tx en i))) = n.val + 1 := ⟨⟨dvN tx (skN tx en (lwE tx en i)) (dgE tx en (skN tx en (lwE tx en i))) - 1, by omega⟩, by dsimp only; omega⟩
      obtain ⟨q1, q2, q3, q4⟩ := greet_code n
      have mid : ∀ r, TXm r tx en → ML r tx en i → ∃ q, Lx r q ∧ ML q tx en (skN tx en (dgE tx en (skN tx en (lwE tx en i)))) ∧ TXm q tx en ∧ f_R_greeting N r = ((f_R_has_ N 46 q).bind fun z6 => if z6.1 = 0 then ((f_R_must N 47 z6.2).bind fun z7 => f_R_greeting_85 N (iN (n.val + 1)) z6.1 z7) else (f_R_greeting_85 N (iN (n.val + 1)) z6.1 z6.2)) := fun r hT m => by
        obtain ⟨q, p1, p2, p3, p4⟩ := pre r hT m
        obtain ⟨s, s1, s2, s3⟩ := must_y (N := N) (w := 45) p3 hen hN p2 (by decide) h4
        obtain ⟨u, u1, u2, u3, u4⟩ := fig_y (N := N) (p3.lx s2) hen hN s3 (lo := 1) (by decide) h5
        have u1 : f_R_figures N 1 4 s = some (iN (dvN tx (skN tx en (lwE tx en i)) (dgE tx en (skN tx en (lwE tx en i)))), u) := u1
        refine ⟨u, (p1.trans s2).trans u2, ML.at hdb.2 u3 u4, (p3.lx s2).lx u2, ?_⟩
        rw [p4, s1, ob, u1, ob]
        dsimp only
        rw [if_pos u3, hn]
      have kq : Rq rd K L2 := k2.trans e2
      rw [A2.fc, ob]
      rcases takeWord_8 (N := N) A2 (hx2 kq) hen hN e3 (w := 4) (by decide) with ⟨-, h6, L3, f1, f2, f3⟩ | ⟨h6, f1⟩
      · have hgt2 := lw_gt hi2 (w := 4) (by decide) h6
        refine ⟨iN (16 + 2 * n.val), L3, _, _, _, ?_, kq.trans f2, f3, by omega, fun _ => ⟨by omega, _, by have := n.isLt; omega, rfl⟩, fun r hT m => ?_⟩
        · rw [f1, ob, if_neg (show ¬ ((1 : Int32), L3).1 = 0 from i1n)]
          unfold f_TxR_readGreeting_8_78 f_TxR_readGreeting_8_101
          dsimp only
          rw [(A2.q f2).fi, ob, f3.1, if_pos rfl, if_neg i1n, hn, q1, ob, q3]
        · obtain ⟨q, p1, p2, p3, p4⟩ := mid r hT m
          have n6 : ¬ wAt tx en (skN tx en (dgE tx en (skN tx en (lwE tx en i)))) (s_byt 46) := fun h => by
            have a1 := h6.1
            have a2 := h.1
            rw [a1] at a2
            have a3 : (s_byt 4).length = 4 := by decide
            have a4 : (s_byt 46).length = 5 := by decide
            omega
          obtain ⟨s, s1, s2, s3⟩ := has_n (N := N) (w := 46) p3 hen hN p2 (by decide) n6
          obtain ⟨u, u1, u2, u3⟩ := must_y (N := N) (w := 47) (p3.lx s2) hen hN s3 (by decide) h6
          refine ⟨iN (16 + 2 * n.val), u, ?_, (p1.trans s2).trans u2, MS.l u3, fun _ => rfl⟩
          rw [p4, s1, ob, if_pos rfl]
          dsimp only
          rw [u1, ob]
          unfold f_R_greeting_85 f_R_greeting_100
          rw [if_pos rfl, Int32.add_zero, q3]
      · rw [f1, ob, if_pos rfl]
        dsimp only
        rw [A2.fc, ob]
        have n4 : ¬ wAt tx en (skN tx en (dgE tx en (skN tx en (lwE tx en i)))) (s_byt 4) := fun h => h6 ⟨rfl, h⟩
        obtain ⟨L3, g5, g6, g7⟩ := readWord_8 (N := N) A2 (hx2 kq) hen hN e3 (w := 5) (by decide)
        rcases g7 with ⟨-, h7, C3⟩ | ⟨h7, C3⟩
        · have hgt2 := lw_gt hi2 (w := 5) (by decide) h7
          refine ⟨iN (17 + 2 * n.val), L3, _, _, _, ?_, kq.trans g6, C3, by omega, fun _ => ⟨by omega, _, by have := n.isLt; omega, rfl⟩, fun r hT m => ?_⟩
          · rw [g5, ob]
            unfold f_TxR_readGreeting_8_78 f_TxR_readGreeting_8_101
            rw [(A2.q g6).fi, ob, C3.1, if_pos rfl, if_pos rfl, hn, q2, ob, q4]
          · obtain ⟨q, p1, p2, p3, p4⟩ := mid r hT m
            obtain ⟨s, s1, s2, s3, s4⟩ := has_y (N := N) (w := 46) p3 hen hN p2 (by decide) h7
            refine ⟨iN (17 + 2 * n.val), s, ?_, p1.trans s2, MS.l (ML.at (lw_b hi2).2 s3 s4), fun _ => rfl⟩
            rw [p4, s1, ob, if_neg (show ¬ ((1 : Int32), s).1 = 0 from i1n)]
            unfold f_R_greeting_85 f_R_greeting_100
            dsimp only
            rw [if_neg i1n, q4]
        · rw [if_pos rfl] at C3
          have n5 : ¬ wAt tx en (skN tx en (dgE tx en (skN tx en (lwE tx en i)))) (s_byt 5) := fun h => h7 ⟨rfl, h⟩
          have hne : iN (skN tx en (dgE tx en (skN tx en (lwE tx en i)))) ≠ -1 := iN_m1 (by omega)
          refine ⟨-1, L3, _, _, _, ?_, kq.trans g6, C3, by omega, fun h => absurd h hne, fun r hT m => ?_⟩
          · rw [g5, ob]
            unfold f_TxR_readGreeting_8_78
            rw [(A2.q g6).fi, ob, C3.1, if_neg hne]
          · obtain ⟨q, p1, p2, p3, p4⟩ := mid r hT m
            obtain ⟨s, s1, s2, s3⟩ := has_n (N := N) (w := 46) p3 hen hN p2 (by decide) n5
            obtain ⟨u, u1, u2, u3⟩ := must_n (N := N) (w := 47) (p3.lx s2) hen hN s3 (by decide) n4
            refine ⟨14 + 2 * iN (n.val + 1) + 0, u, ?_, (p1.trans s2).trans u2, MS.d hi2 hen u3, fun h => absurd h hne⟩
            rw [p4, s1, ob, if_pos rfl]
            dsimp only
            rw [u1, ob]
            unfold f_R_greeting_85 f_R_greeting_100
            rw [if_pos rfl]
    · have e1 : f_TxR_readNumber_8 N rd 1 4 L1 = some (-1, L2) := e1
      have n5 : ¬ gdN tx en (skN tx en (lwE tx en i)) 1 4 := fun h => h5 ⟨rfl, h⟩
      rw [if_pos rfl] at e3
      rw [e1, ob]
      dsimp only
      refine dead (A1.q e2) (k2.trans e2) hi1 e3 (by omega) (-1) fun r hT m => ?_
      obtain ⟨q, p1, p2, p3, p4⟩ := pre r hT m
      obtain ⟨s, s1, s2, s3⟩ := must_y (N := N) (w := 45) p3 hen hN p2 (by decide) h4
      obtain ⟨v, u, u1, u2, u3⟩ := fig_n (N := N) (p3.lx s2) hen hN s3 (lo := 1) (by decide) n5
      have u1 : f_R_figures N 1 4 s = some (v, u) := u1
      refine ⟨0, u, ?_, (p1.trans s2).trans u2, u3⟩
      rw [p4, s1, ob, u1, ob]
      dsimp only
      rw [if_neg (u3.ne (by omega))]
  · rw [if_pos rfl] at C1
    have n3 : ¬ wAt tx en i (s_byt 3) := fun h => h4 ⟨rfl, h⟩
    have hne : iN i ≠ -1 := iN_m1 (by omega)
    rcases readNumber_8 (N := N) A1 (hx2 k2) hen hN C1 1 (by decide) 4 with ⟨h5, -⟩ | ⟨-, L2, e1, e2, e3⟩
    · exact absurd h5 hne
    · have e1 : f_TxR_readNumber_8 N rd 1 4 L1 = some (-1, L2) := e1
      rw [if_neg hne] at e3
      rw [e1, ob]
      dsimp only
      refine dead (A1.q e2) (k2.trans e2) hi e3 (Nat.le_refl _) (-1) fun r hT m => ?_
      obtain ⟨q, p1, p2, p3, p4⟩ := pre r hT m
      obtain ⟨s, s1, s2, s3⟩ := must_n (N := N) (w := 45) p3 hen hN p2 (by decide) n3
      have hsn := s3.ne (by omega)
      refine ⟨0, s, ?_, p1.trans s2, s3⟩
      rw [p4, s1, ob, fig_d hsn, ob]
      dsimp only
      rw [if_neg hsn]
/-- .. where something is wrong already -/
theorem greetD_8 (A : RS_8 K rd xx) (hx : m_iv K xx = tx) (hen : en ≤ 400) (hN : 500 < N) (C : CS K rd en tx i t f) (hf : f ≠ -1) : ∃ L, f_TxR_readGreeting_8 N rd K = some (-1, L) ∧ Rq rd K L ∧ CS L rd en tx i t f := by
  have hx2 : ∀ {L : Mem}, Rq rd K L → m_iv L xx = tx := fun h => (h.2 xx (fun e => A.2.2.2 e.symm)).trans hx
  have tw : ∀ {L : Mem} (w : Nat), wdB w = true → RS_8 L rd xx → Rq rd K L → CS L rd en tx i t f → f_TxR_takeWord_8 N rd w L = some (0, L) := fun w hw AL hq CL => by
    rcases takeWord_8 (N := N) AL (hx2 hq) hen hN CL hw with ⟨g1, -⟩ | ⟨-, g2⟩
    · exact absurd g1 hf
    · exact g2
  have rw' : ∀ {L : Mem} (w : Nat), wdB w = true → RS_8 L rd xx → Rq rd K L → CS L rd en tx i t f → ∃ L2, f_TxR_readWord_8 N rd w L = some L2 ∧ Rq rd L L2 ∧ CS L2 rd en tx i t f := fun w hw AL hq CL => by
    obtain ⟨L2, g1, g2, g3⟩ := readWord_8 (N := N) AL (hx2 hq) hen hN CL hw
    rcases g3 with ⟨g4, -⟩ | ⟨-, g4⟩
    · exact absurd g4 hf
    · rw [if_neg hf] at g4
      exact ⟨L2, g1, g2, g4⟩
  obtain ⟨L1, a1, a2, a3⟩ := rw' 3 (by decide) A (Rq.refl K) C
  have A1 := A.q a2
  rcases readNumber_8 (N := N) A1 (hx2 a2) hen hN a3 1 (by decide) 4 with ⟨g1, -⟩ | ⟨-, L2, e1, e2, e3⟩
  · exact absurd g1 hf
  have e1 : f_TxR_readNumber_8 N rd 1 4 L1 = some (-1, L2) := e1
  rw [if_neg hf] at e3
  have A2 := A1.q e2
  obtain ⟨L3, b1, b2, b3⟩ := rw' 5 (by decide) A2 (a2.trans e2) e3
  refine ⟨L3, ?_, (a2.trans e2).trans b2, b3⟩
  unfold f_TxR_readGreeting_8
  rw [A.fc, ob, tw 0 (by decide) A (Rq.refl K) C, ob, if_pos rfl]
  dsimp only
  rw [A.fc, ob, tw 1 (by decide) A (Rq.refl K) C, ob, if_pos rfl]
  dsimp only
  rw [A.fc, ob, tw 2 (by decide) A (Rq.refl K) C, ob, if_pos rfl]
  dsimp only
  rw [A.fc, ob, a1, ob, A1.fc, ob, e1, ob]
  dsimp only
  rw [A2.fc, ob, tw 4 (by decide) A2 (a2.trans e2) e3, ob, if_pos rfl]
  dsimp only
  rw [A2.fc, ob, b1, ob]
  unfold f_TxR_readGreeting_8_78
  rw [(A2.q b2).fi, ob, b3.1, if_neg hf]
end Gc
