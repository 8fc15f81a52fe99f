section Te
variable {N x o t B n p k w i s c d many : Nat} {ps ys zs : Nat → Nat} {M K L : Mem} {r q : Rho} {a b g u v S T A taken : Int32} {m m2 m0 : Nat → Int32} {ord gs : Nat → Nat} {z : Nat × (Nat → Nat)}
/-- the table: nobody, or the best order of all -/
def tbV (m : Nat → Int32) (A : Int32) : Nat × (Nat → Nat) := tbF m (ctB (ib A) 32) 10 (rmB A (loB A)) 1 0 (fun _ => loB A) (1000000, fun _ => 0)
theorem tbV_lt (I : Inv m) (hA : bdB (cn m 5) A) (h0 : A ≠ 0) (h8 : ctB (ib A) 32 ≤ 8) : (tbV m A).1 < 1000000 := by
  obtain ⟨l1, l2, l3⟩ := loB_p h0
  have hcr := ct_rm l1 l2
  exact tbF_hit I _ 10 _ _ _ _ _ (by omega) (bd_rm hA _) (by omega)
theorem seatAll_cl (G : GS N x o ps ys M r) (hA : bdB (cn (r.2 1) 5) A) (h8 : ctB (ib A) 32 ≤ 8) (hN : 100 < N) : ∃ K, f_Seating_seatAll N (x + 132) (x + 2) A M = some K ∧ GS N x o ps ys K r ∧ m_iv K (x + 132) 3 = iN (ctB (ib A) 32) ∧ (A = 0 → m_iv K (x + 132) 0 = 0) ∧ (A ≠ 0 → m_iv K (x + 132) 0 = iN (tbV (r.2 1) A).1 ∧ ∀ i, i < ctB (ib A) 32 → m_iv K (x + 135) i = iN ((tbV (r.2 1) A).2 i)) := by
  have h5 := G.I.b5
  have hA10 : bdB 10 A := fun i hi => hA i (by omega)
  have hct : ctB (ib A) 32 = idN A 10 := bd_ctn (by decide) hA10
  have G1 := G.rvS (x + 2)
  have F0 : Fr (x + 132) 4 (x + 628) (m_setR M (x + 132) 1 (some (x + 2))) (m_setI (m_setR M (x + 132) 1 (some (x + 2))) (x + 132) 3 0) := Fr.setI (by omega) (by omega) (by omega)
  unfold f_Seating_seatAll
  rw [G.A.sr, ob, G1.A.sp, ob]
  refine lp_inv (F := fun fuel k w => f_Seating_seatAll_12 N (x + 132) (x + 2) A fuel (iN k) w) (n := 10) (P := fun k w => Fr (x + 132) 4 (x + 628) (m_setR M (x + 132) 1 (some (x + 2))) w ∧ m_iv w (x + 132) 3 = iN (idN A k) ∧ ∀ p, p < k → ib A p = true → m_iv w (x + 133) (idN A p) = iN p) (Q := fun t => ∃ K, t = some K ∧ GS N x o ps ys K r ∧ m_iv K (x + 132) 3 = iN (ctB (ib A) 32) ∧ (A = 0 → m_iv K (x + 132) 0 = 0) ∧ (A ≠ 0 → m_iv K (x + 132) 0 = iN (tbV (r.2 1) A).1 ∧ ∀ i, i < ctB (ib A) 32 → m_iv K (x + 135) i = iN ((tbV (r.2 1) A).2 i))) (fun fuel w hw => ?_) (fun fuel k w hk hw => ?_) 10 0 _ N (Nat.zero_add _) (by omega) ⟨F0, by rw [iv_same, up1_same]; rfl, fun p hp => absurd hp (Nat.not_lt_zero p)⟩
  · obtain ⟨w1, w2, w3⟩ := hw
    have Gw := G1.frS w1
    rw [← hct] at w2
    have F2 : Fr (x + 132) 4 (x + 628) w (m_setI w (x + 132) 0 0) := Fr.setI (by omega) (by omega) (by omega)
    have G2 := Gw.frS F2
    have e0 : f_Seating_seatAll_12 N (x + 132) (x + 2) A (fuel + 1) (iN 10) w = (if iN (ctB (ib A) 32) ≤ 0 then some (m_setI w (x + 132) 0 0) else ((pI (m_setI w (x + 132) 0 0) 6 (x + 132) 0 1000000000).bind fun M5 => (gR M5 6 (x + 132) 4).bind fun v6 => (gR M5 6 (x + 132) 2).bind fun v7 => (ald M5 v7 0).bind fun v8 => (ast M5 v6 0 v8).bind fun M9 => (f_Seating_seatNext N 10 (x + 132) 1 1 0 M9).bind fun z10 => some z10)) := by
      rw [f_Seating_seatAll_12, if_pos (show (10 : Int32) ≤ iN 10 from i_le_rfl _), Gw.A.sp, ob, G2.A.si, ob, iv_same, up1_ne (by decide), w2]
    rw [e0]
    by_cases h0 : A = 0
    · have hc0 : ctB (ib A) 32 = 0 := by rw [h0]; decide
      rw [hc0, if_pos (show iN 0 ≤ (0 : Int32) by decide)]
      refine ⟨_, rfl, G2, ?_, fun _ => ?_, fun h => absurd h0 h⟩
      · rw [iv_same, up1_ne (by decide), w2, hc0]
      · rw [iv_same, up1_same]
    · have hcp : 0 < ctB (ib A) 32 := Nat.pos_of_ne_zero fun h => h0 (ct_0 h)
      obtain ⟨l1, l2, l3⟩ := loB_p h0
      have lp5 := bd_lt hA l2
      have hcr := ct_rm l1 l2
      have hid0 : idN A (loB A) = 0 := by
        refine Nat.eq_zero_of_not_pos fun hp => ?_
        obtain ⟨j, h1, h2⟩ := (ctB_pos (ib A) (loB A)).mp hp
        rw [l3 j h1] at h2
        cases h2
      rw [if_neg (show ¬ iN (ctB (ib A) 32) ≤ (0 : Int32) from iN_nle (k := 0) hcp (by omega)), G2.A.sp, ob]
      have F3 : Fr (x + 132) 4 (x + 628) w (m_setI (m_setI w (x + 132) 0 0) (x + 132) 0 1000000000) := F2.trans (Fr.setI (by omega) (by omega) (by omega))
      have G3 := Gw.frS F3
      have F4 : Fr (x + 132) 4 (x + 628) w (m_setI (m_setI (m_setI w (x + 132) 0 0) (x + 132) 0 1000000000) (x + 134) 0 (iN (loB A))) := F3.trans (Fr.setI (by omega) (by omega) (by omega))
      have G4 := Gw.frS F4
      have e133 : m_iv w (x + 133) 0 = iN (loB A) := by
        have := w3 (loB A) (by omega) l2
        rw [hid0] at this
        exact this
      obtain ⟨L, c1, L1, L2, L3, L4, L5⟩ := seatNext_cl (N := N) (A := A) (many := ctB (ib A) 32) (gs := fun i => (m_iv w (x + 133) i).toNatClampNeg) G1 (by rw [rv_setR, if_pos ⟨rfl, rfl⟩]) hA rfl h8 (fun p hp hap => by
          show (m_iv w (x + 133) (idN A p)).toNatClampNeg = p
          rw [w3 p (by omega) hap, iN_cl (by omega)]) hN 10 (rmB A (loB A)) 1 1 0 (fun _ => loB A) (1000000, fun _ => 0) (m_setI (m_setI (m_setI w (x + 132) 0 0) (x + 132) 0 1000000000) (x + 134) 0 (iN (loB A))) (Nat.le_refl _) (by omega) (by omega) (fun p hp => by
          rw [ib_rm A l1 hp, ib_1]
          by_cases hpl : p = loB A
          · rw [hpl, hid0]; simp
          · by_cases hap : ib A p = true
            · have : idN A p ≠ 0 := fun h => hpl (idN_inj hap l2 (by rw [h, hid0]))
              rw [decide_eq_false hpl, decide_eq_false this]
            · rw [Bool.eq_false_iff.mpr hap]; simp) (by decide) (by omega) (w1.trans F4) (by rw [iv_ne (by omega), iv_same, up1_ne (by decide), iv_same, up1_ne (by decide)]; exact w2) (fun i hi => by
          rw [iv_ne (by omega), iv_ne (by omega), iv_ne (by omega)]
          rw [hct] at hi
          obtain ⟨p, h1, h2, h3⟩ := ctB_at (ib A) 10 i hi
          have h4 := w3 p h1 h2
          have h3 : idN A p = i := h3
          rw [h3] at h4
          rw [h4, iN_cl (by omega)]) (fun i hi => ⟨lp5, by rw [show i = 0 by omega, iv_same, up1_same]⟩) (Or.inl ⟨rfl, by rw [iv_ne (by omega), iv_same, up1_same]⟩)
      refine ⟨L, ?_, G1.frS L1, L2, fun h => absurd h h0, fun _ => ?_⟩
      · rw [G3.A.s4, ob, G3.A.s2, ob, show ald (m_setI (m_setI w (x + 132) 0 0) (x + 132) 0 1000000000) (x + 133) 0 = some (m_iv (m_setI (m_setI w (x + 132) 0 0) (x + 132) 0 1000000000) (x + 133) 0) from G3.A.sg (k := 0) (by decide), ob, iv_ne (show x + 133 ≠ x + 132 by omega), iv_ne (show x + 133 ≠ x + 132 by omega), e133, show ast (m_setI (m_setI w (x + 132) 0 0) (x + 132) 0 1000000000) (x + 134) 0 (iN (loB A)) = some (m_setI (m_setI (m_setI w (x + 132) 0 0) (x + 132) 0 1000000000) (x + 134) 0 (iN (loB A))) from G3.A.sos (k := 0) (by decide) _, ob]
        rw [show f_Seating_seatNext N 10 (x + 132) 1 1 0 (m_setI (m_setI (m_setI w (x + 132) 0 0) (x + 132) 0 1000000000) (x + 134) 0 (iN (loB A))) = some L from c1, ob]
      · have hlt := tbV_lt G.I hA h0 h8
        rcases L5 with ⟨h1, -⟩ | ⟨-, h1, h2⟩
        · have h1 : (tbV (r.2 1) A).1 = 1000000 := h1
          omega
        · exact ⟨h1, h2⟩
  · obtain ⟨w1, w2, w3⟩ := hw
    have Gw := G1.frS w1
    have hmn := idN_mono A (p := k) (10 - k)
    rw [show k + (10 - k) = 10 by omega, ← hct] at hmn
    have h10 : ¬ (10 : Int32) ≤ iN k := iN_nle (n := 10) hk (by decide)
    by_cases hak : ib A k = true
    · have hlt := idN_lt hak hk
      rw [← hct] at hlt
      have F2 : Fr (x + 132) 4 (x + 628) w (m_setI w (x + 133) (idN A k) (iN k)) := Fr.setI (by omega) (by omega) (by omega)
      have G2 := Gw.frS F2
      refine ⟨m_setI (m_setI w (x + 133) (idN A k) (iN k)) (x + 132) 3 (iN (idN A k) + 1), ?_, w1.trans (F2.trans (Fr.setI (by omega) (by omega) (by omega))), ?_, fun p hp hap => ?_⟩
      · rw [f_Seating_seatAll_12, if_neg h10, f_CT_isIn_eq (show k < 32 by omega), ob, hak, if_neg (show ¬ b01 true = 0 by decide), Gw.A.si, ob, w2, if_neg (show ¬ (8 : Int32) ≤ iN (idN A k) from iN_nle (n := 8) (by omega) (by decide)), Gw.A.s2, ob, ob, Gw.A.sgs (by omega), ob, G2.A.si, ob, iv_ne (by omega), w2, G2.A.sp, ob, iN_s k]
      · rw [iv_same, up1_same, iN_s, idN_s hak]
      · rw [iv_ne (by omega), iv_same, up1_at]
        by_cases hpk : p = k
        · rw [hpk, if_pos rfl]
        · have hap2 : idN A p ≠ idN A k := fun h => hpk (idN_inj hap hak h)
          rw [if_neg hap2]
          exact w3 p (by omega) hap
    · refine ⟨w, ?_, w1, ?_, fun p hp hap => ?_⟩
      · rw [f_Seating_seatAll_12, if_neg h10, f_CT_isIn_eq (show k < 32 by omega), ob, Bool.eq_false_iff.mpr hak, if_pos (show b01 false = 0 from rfl), iN_s]
      · rw [w2]
        show iN (ctB (ib A) k) = iN (ctB (ib A) (k + 1))
        rw [ctB_s, if_neg hak, Nat.add_zero]
      · by_cases hpk : p = k
        · rw [hpk] at hap; exact absurd hap hak
        · exact w3 p (by omega) hap
theorem Tq.s0 (h : Tq r q) : S0 r q := ⟨⟨h.2 1 (by decide) (by decide), h.2 2 (by decide) (by decide), h.2 5 (by decide) (by decide), h.2 7 (by decide) (by decide)⟩, h.1 3 (by decide), h.1 6 (by decide), h.1 8 (by decide), h.1 12 (by decide), fun z => by
  unfold Bz
  rw [h.1 15 (by decide), h.1 16 (by decide)]
  exact z⟩
theorem table_md (I : Inv (r.2 1)) (hN : 100 < N) (hA : bdB (cn (r.2 1) 5) A) (h8 : ctB (ib A) 32 ≤ 8) (h0 : A ≠ 0) (hz : r.1 26 = 1000000) : ∃ q, f_R_sits N 10 A 0 (iN (ctB (ib A) 32)) 0 r = some q ∧ Tq r q ∧ q.1 26 = iN (tbV (r.2 1) A).1 ∧ ∀ i, i < ctB (ib A) 32 → q.2 23 i = iN ((tbV (r.2 1) A).2 i) := by
  have h5 := I.b5
  obtain ⟨l1, l2, l3⟩ := loB_p h0
  have lp5 := bd_lt hA l2
  have hcr := ct_rm l1 l2
  have tq : Tq r (r_st r 22 0 (iN (loB A))) := Tq.s22 ⟨fun _ _ => rfl, fun _ _ _ => rfl⟩ 0 _
  obtain ⟨q, m1, t1, z1, -⟩ := sits_md (r := r) (N := N) (many := ctB (ib A) 32) I hN h8 9 (rmB A (loB A)) 1 0 (fun _ => loB A) (1000000, fun _ => 0) (r_st r 22 0 (iN (loB A))) (Nat.le_refl _) (by omega) (by omega) (bd_rm hA _) (by omega) (fun i hi => ⟨lp5, by rw [rst_own, if_pos (by omega)]⟩) tq ⟨hz, Nat.le_refl _, fun h => absurd h (Nat.lt_irrefl _)⟩
  have est : tbF (r.2 1) (ctB (ib A) 32) 9 (rmB A (loB A)) 1 0 (fun _ => loB A) (1000000, fun _ => 0) = tbV (r.2 1) A := tbF_st _ _ 9 10 _ _ _ _ _ (by omega) (by omega)
  rw [est] at z1
  refine ⟨q, ?_, t1, z1.1, z1.2.2 (tbV_lt I hA h0 h8)⟩
  rw [f_R_sits, hz, if_pos (show (0 : Int32) ≤ 1000000 by decide), if_neg h0]
  have find : ∀ (j i fuel : Nat), i + j = loB A → j < fuel → f_R_sits_105 N (f_R_sits N 9) A 0 (iN (ctB (ib A) 32)) 0 fuel (iN i) r = some q := by
    intro j
    induction j with
    | zero =>
      intro i fuel hi hf
      obtain ⟨fu, rfl⟩ : ∃ fu, fuel = fu + 1 := ⟨fuel - 1, by omega⟩
      obtain rfl : i = loB A := by omega
      rw [f_R_sits_105, rlm5, ob, I.n5, if_neg (iN_nle lp5 (by omega)), f_R_isOf_eq l1, ob, l2, if_neg (show ¬ b01 true = 0 by decide), show rst r 22 0 (iN (loB A)) = some (r_st r 22 0 (iN (loB A))) from yw22 (k := 0) (by decide), ob, if_pos (i_le_rfl _)]
      unfold f_R_sits_183
      rw [show f_R_sits N 9 (A &&& (((1 : Int32) <<< (iN (loB A) &&& 31)) ^^^ (-1))) (0 + 1) (iN (ctB (ib A) 32)) (0 + 0) (r_st r 22 0 (iN (loB A))) = some q from m1, ob, if_pos rfl]
    | succ j ih =>
      intro i fuel hi hf
      obtain ⟨fu, rfl⟩ : ∃ fu, fuel = fu + 1 := ⟨fuel - 1, by omega⟩
      rw [f_R_sits_105, rlm5, ob, I.n5, if_neg (iN_nle (show i < cn (r.2 1) 5 by omega) (by omega)), f_R_isOf_eq (show i < 32 by omega), ob, l3 i (by omega), if_pos (show b01 false = 0 from rfl), iN_s]
      exact ih (i + 1) fu (by omega) (by omega)
  exact find (loB A) 0 N (Nat.zero_add _) (by omega)
theorem op_table (G : GS N x o ps ys M r) (hN : 20000 ≤ N) : Both2 N x o (f_CT_table N x a b M) (f_R_table N a b r) := by
  have h5 := G.I.b5
  have hA : bdB (cn (r.2 1) 5) (a &&& evS (r.2 1)) := fun i hi => by rw [ib_and, bd_ev G.I i hi, Bool.and_false]
  have ee : (a &&& (((1 : Int32) <<< (r.2 1 5 &&& 31)) - 1)) = a &&& evS (r.2 1) := rfl
  unfold f_CT_table f_R_table
  rw [G.A.gN, ob, G.S.c0, ob, f_Town_everybody_eq G.S G.R, ob, bitCount_ct, ob, rlm5, ob]
  rw [show (r_set r 0 0).2 1 5 = r.2 1 5 from rfl, ee]
  generalize a &&& evS (r.2 1) = A at *
  have hb : f_R_bits N A = some (iN (ctB (ib A) 32)) := by
    obtain ⟨k, hk, rfl⟩ := bd_num h5 hA
    rw [f_R_bits_eq (by omega) hk]
    have e1 := bitCount_eq hk
    rw [bitCount_ct] at e1
    exact e1.symm
  have hct12 := bd_ct h5 hA
  rw [hb, ob]
  by_cases h8 : ctB (ib A) 32 ≤ 8
  · have h8i : iN (ctB (ib A) 32) ≤ (8 : Int32) := iN_yle (n := ctB (ib A) 32) (k := 8) h8 (by decide)
    rw [if_pos h8i, if_pos h8i]
    obtain ⟨K, c1, G1, k3, k0, k1⟩ := seatAll_cl (N := N) G hA h8 (by omega)
    rw [G.A.gS, ob, ob, G.A.sc, ob, c1, ob, G1.A.gS, ob]
    have ga : ∀ v, f_Seating_guestAt (x + 132) b K = some v → ∀ w, (ck K 6 (x + 132)).bind (fun _ => (f_Seating_guestAt (x + 132) b K).bind fun z8 => some (z8, K)) = w → w = some (v, K) := fun v hv w hw => by
      rw [← hw, G1.A.sc, ob, hv, ob]
    by_cases h0 : A = 0
    · have hc0 : ctB (ib A) 32 = 0 := by rw [h0]; decide
      rw [hc0] at k3 ⊢
      have g26 : GS N x o ps ys K (r_set (r_set r 0 0) 26 1000000) := G1.s0 ⟨⟨rfl, rfl, rfl, rfl⟩, rfl, rfl, rfl, rfl, id⟩
      rw [if_pos (show iN 0 ≤ (0 : Int32) by decide)]
      unfold f_R_table_55
      by_cases hb1 : b = -1
      · rw [if_pos hb1, if_pos hb1, G1.A.si, ob, k0 h0, if_pos (show iN 0 = 0 from rfl)]
        exact ⟨ps, ys, 0, K, _, rfl, rfl, g26⟩
      · have hno : ¬ okR b 0 := fun ⟨k, hk, _⟩ => absurd hk (Nat.not_lt_zero k)
        rw [if_neg hb1, if_neg hb1, isIn_n hno (by decide)]
        simp only [ob, ↓reduceIte]
        refine ⟨ps, ys, -1, K, _, ga (-1) ?_ _ rfl, rfl, g26⟩
        unfold f_Seating_guestAt
        by_cases hneg : b < 0
        · rw [if_pos hneg]
        · rw [if_neg hneg, G1.A.si, ob, k3, if_pos (show iN 0 ≤ b from Int32.not_lt.mp hneg)]
    · have hcp : 0 < ctB (ib A) 32 := Nat.pos_of_ne_zero fun h => h0 (ct_0 h)
      obtain ⟨q, m1, t1, z1, z2⟩ := table_md (r := r_set (r_set r 0 0) 26 1000000) (N := N) (A := A) G.I (by omega) hA h8 h0 (set_s _ _ _)
      have z1 : q.1 26 = iN (tbV (r.2 1) A).1 := z1
      have z2 : ∀ i, i < ctB (ib A) 32 → q.2 23 i = iN ((tbV (r.2 1) A).2 i) := z2
      have g26 : GS N x o ps ys K q := G1.s0 ((show S0 r (r_set (r_set r 0 0) 26 1000000) from ⟨⟨rfl, rfl, rfl, rfl⟩, rfl, rfl, rfl, rfl, id⟩).trans t1.s0)
      rw [if_neg (show ¬ iN (ctB (ib A) 32) ≤ (0 : Int32) from iN_nle (k := 0) hcp (by omega)), m1]
      unfold f_R_table_55
      simp only [ob]
      obtain ⟨e1, e2⟩ := k1 h0
      by_cases hb1 : b = -1
      · rw [if_pos hb1, if_pos hb1, G1.A.si, ob, e1, if_neg (show ¬ iN (ctB (ib A) 32) = 0 from iN_ne (b := 0) (by omega) (by omega) (by decide)), z1]
        exact ⟨ps, ys, _, K, q, rfl, rfl, g26⟩
      · rw [if_neg hb1, if_neg hb1]
        by_cases hok : okR b (ctB (ib A) 32)
        · rw [isIn_y hok (by omega), ob, if_neg i1n]
          obtain ⟨k, hk, rfl⟩ := hok
          rw [y23 (by omega), ob, z2 k hk]
          refine ⟨ps, ys, _, K, q, ga (iN ((tbV (r.2 1) A).2 k)) ?_ _ rfl, rfl, g26⟩
          unfold f_Seating_guestAt
          rw [if_neg (iN_nn (by omega)), G1.A.si, ob, k3, if_neg (iN_nle hk (by omega)), G1.A.s5, ob, G1.A.sb (by omega), ob, e2 k hk]
        · rw [isIn_n hok (by omega), ob, if_pos rfl]
          refine ⟨ps, ys, -1, K, q, ga (-1) ?_ _ rfl, rfl, g26⟩
          unfold f_Seating_guestAt
          by_cases hneg : b < 0
          · rw [if_pos hneg]
          · rw [if_neg hneg, G1.A.si, ob, k3, if_pos (Int32.not_lt.mp (okR_n hok (by omega) hneg))]
  · have h8i : ¬ iN (ctB (ib A) 32) ≤ (8 : Int32) := iN_nle (n := ctB (ib A) 32) (k := 8) (by omega) (by omega)
    rw [if_neg h8i, if_neg h8i]
    exact ⟨ps, ys, -3, M, _, rfl, rfl, G.th 0⟩
end Te
