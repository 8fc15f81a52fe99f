section Pd
variable {N x o t B n p k w i s : Nat} {ps ys zs : Nat → Nat} {M K L : Mem} {r q : Rho} {a b g u v S T : Int32} {m m2 m0 : Nat → Int32}
/-- all who are tied -/
def ptS (m : Nat → Int32) : Int32 := lp (fun i z => z ||| tdS m i) (cn m 5) 0 0
theorem ib_pt (I : Inv m) {j : Nat} (hj : j < 32) : ib (ptS m) j = true ↔ ∃ i, i < cn m 5 ∧ tdB m i j = true := by
  have h5 := I.b5
  have key : ∀ k, k ≤ cn m 5 → (ib (lp (fun i z => z ||| tdS m i) k 0 0) j = true ↔ ∃ i, i < k ∧ tdB m i j = true) := by
    intro k
    induction k with
    | zero => intro _; exact ⟨fun h => (by rw [show lp (fun i z => z ||| tdS m i) 0 0 (0 : Int32) = 0 from rfl, ib_0] at h; exact Bool.noConfusion h), fun ⟨i, h, _⟩ => absurd h (Nat.not_lt_zero i)⟩
    | succ k ih =>
      intro hk
      rw [lp_snoc, ib_or, Bool.or_eq_true, ih (by omega), Nat.zero_add, ib_tdS I (show k < 100 by omega) hj]
      constructor
      · rintro (⟨i, h1, h2⟩ | h)
        · exact ⟨i, by omega, h2⟩
        · exact ⟨k, by omega, h⟩
      · rintro ⟨i, h1, h2⟩
        by_cases hik : i = k
        · rw [hik] at h2; exact Or.inr h2
        · exact Or.inl ⟨i, by omega, h2⟩
  exact key _ (Nat.le_refl _)
theorem peopleTied_cl (G : GS N x o ps ys M r) (hN : 100 < N) : f_Town_peopleTied N (x + 2) M = some (ptS (r.2 1)) := by
  have h5 := G.I.b5
  unfold f_Town_peopleTied ptS
  refine lp_run (F := fun fuel k z => f_Town_peopleTied_4 N (x + 2) M fuel z (iN k)) (f := fun i z => z ||| tdS (r.2 1) i) (fin := fun z => some z) (n := cn (r.2 1) 5) (fun fuel z => ?_) (fun fuel k z hk => ?_) _ 0 0 N (Nat.zero_add _) (by omega)
  · rw [f_Town_peopleTied_4, G.S.i0, ob, G.R.v5, G.I.n5, if_pos (i_le_rfl _)]
  · rw [f_Town_peopleTied_4, G.S.i0, ob, G.R.v5, G.I.n5, if_neg (iN_nle hk (by omega)), G.S.g_people, ob, G.S.g_person (show k < 10 by omega), ob, G.S.iP (show k < 10 by omega), ob, G.R.q5 G.I hk, iN_s]
theorem pt_T (I : Inv m) : ∀ p i, p < 32 → i < 32 → tdB m p i = true → ib (ptS m) p = true ∧ ib (ptS m) i = true := fun p i hp hi h => by
  obtain ⟨h1, h2, -⟩ := I.td (show p < 100 by omega) (show i < 100 by omega) h
  exact ⟨(ib_pt I hp).mpr ⟨i, h2, by rw [tdB_comm]; exact h⟩, (ib_pt I hi).mpr ⟨p, h1, h⟩⟩
theorem pt_bd (I : Inv m) : bdB (cn m 5) (ptS m) := fun j hj => by
  by_cases h : j < 32
  · refine Bool.eq_false_iff.mpr fun h2 => ?_
    obtain ⟨i, h3, h4⟩ := (ib_pt I h).mp h2
    have h5 := I.b5
    have := (I.td (show i < 100 by omega) (show j < 100 by omega) h4).2.1
    omega
  · exact ib_big _ (Nat.le_of_not_lt h)
theorem bd_ev (I : Inv m) : bdB (cn m 5) (evS m) := fun i hi => by
  by_cases h : i < 32
  · have h5 := I.b5
    have e := ev_all ⟨cn m 5, by omega⟩ ⟨i, h⟩
    dsimp only at e
    rw [evS_eq I, e, decide_eq_false (by omega)]
  · exact ib_big _ (Nat.le_of_not_lt h)
theorem bd_and (h : bdB n S) (T : Int32) : bdB n (S &&& T) := fun i hi => by rw [ib_and, h i hi, Bool.false_and]
theorem sub_eq_iff {S T : Int32} : S &&& T = T ↔ ∀ i, i < 32 → ib T i = true → ib S i = true := by
  constructor
  · intro h i _ h2
    rw [← h, ib_and, Bool.and_eq_true] at h2
    exact h2.1
  · intro h
    refine ib_ext fun i hi => ?_
    rw [ib_and]
    cases h2 : ib T i with
    | true => rw [h i hi h2]; rfl
    | false => rw [Bool.and_false]
/-- the pairs, taken in the order of the ties -/
def prS (m : Nat → Int32) (k : Nat) (S : Int32) : Int32 := if S &&& cdT m k = cdT m k ∧ 1 + mpF m 12 (S &&& (cdT m k ^^^ (-1))) = mpF m 12 S then S &&& (cdT m k ^^^ (-1)) else S
theorem prS_bd (h : bdB n S) (k : Nat) : bdB n (prS m k S) := by
  unfold prS
  by_cases h1 : S &&& cdT m k = cdT m k ∧ 1 + mpF m 12 (S &&& (cdT m k ^^^ (-1))) = mpF m 12 S
  · rw [if_pos h1]; exact bd_and h _
  · rw [if_neg h1]; exact h
theorem ib_cdT (I : Inv m) (hk : k < cn m 6) : ∃ a b, a < cn m 5 ∧ b < cn m 5 ∧ tdB m a b = true ∧ ∀ i, i < 32 → (ib (cdT m k) i = true ↔ i = a ∨ i = b) := by
  have h5 := I.b5
  obtain ⟨a, b, ha, hb, -, e1, e2⟩ := I.t hk
  refine ⟨a, b, ha, hb, (tdB_iff m a b).mpr ⟨k, hk, Or.inl ⟨e1, e2⟩⟩, fun i hi => ?_⟩
  unfold cdT
  rw [e1, e2, ib_or, ib_shl (by omega), ib_shl (by omega), Bool.or_eq_true, decide_eq_true_eq, decide_eq_true_eq]
theorem cdT_pt (I : Inv m) (hk : k < cn m 6) {i : Nat} (hi : i < 32) (h : ib (cdT m k) i = true) : ib (ptS m) i = true := by
  have h5 := I.b5
  obtain ⟨a, b, ha, hb, hab, hc⟩ := ib_cdT I hk
  have h2 := pt_T I a b (by omega) (by omega) hab
  rcases (hc i hi).mp h with rfl | rfl
  · exact h2.1
  · exact h2.2
/-- the class goes by those who are tied, the model by all -/
theorem prS_T (I : Inv m) (hb : bdB (cn m 5) S) (hk : k < cn m 6) : prS m k S &&& ptS m = prS m k (S &&& ptS m) := by
  have h5 := I.b5
  have T := fun (R : Int32) (h : bdB (cn m 5) R) => mpF_T (m := m) (T := ptS m) (pt_T I) 12 R (Nat.le_of_lt (bd_ct h5 h))
  have e1 : S &&& cdT m k = cdT m k ↔ (S &&& ptS m) &&& cdT m k = cdT m k := by
    rw [sub_eq_iff, sub_eq_iff]
    constructor
    · intro h i hi h2
      rw [ib_and, h i hi h2, cdT_pt I hk hi h2]; rfl
    · intro h i hi h2
      have := h i hi h2
      rw [ib_and, Bool.and_eq_true] at this
      exact this.1
  have e2 : (S &&& (cdT m k ^^^ (-1))) &&& ptS m = (S &&& ptS m) &&& (cdT m k ^^^ (-1)) := by
    rw [Int32.and_assoc, Int32.and_assoc, Int32.and_comm (cdT m k ^^^ (-1))]
  unfold prS
  rw [T S hb, T (S &&& (cdT m k ^^^ (-1))) (bd_and hb _), e2]
  by_cases h : S &&& cdT m k = cdT m k ∧ 1 + mpF m 12 ((S &&& ptS m) &&& (cdT m k ^^^ (-1))) = mpF m 12 (S &&& ptS m)
  · rw [if_pos h, if_pos ⟨e1.mp h.1, h.2⟩, e2]
  · rw [if_neg h, if_neg (fun w => h ⟨e1.mpr w.1, w.2⟩)]
theorem pairs_cl (G : GS N x o ps ys M r) (hN : 100 < N) (a : Int32) : f_CT_pairs N x a M = some (if a = 0 then iN (mpF (r.2 1) 12 (ptS (r.2 1))) else lp (prS (r.2 1)) (cn (r.2 1) 6) 0 (ptS (r.2 1))) := by
  have h5 := G.I.b5
  have h6 := G.I.b6
  have pc : ∀ S : Int32, bdB (cn (r.2 1) 5) S → f_CT_mostPairs N 12 (x + 2) 0 S M = some (iN (mpF (r.2 1) 12 S)) := fun S h => by
    have h9 := mostPairs_cl G hN 12 0 S h (by omega) (Nat.zero_le _)
    rw [hi_0] at h9
    exact h9
  unfold f_CT_pairs
  rw [G.A.gN, ob, G.S.c0, ob, peopleTied_cl G hN, ob, ob, pc _ (pt_bd G.I), ob]
  by_cases h : a = 0
  · rw [if_pos h, if_pos h]
  · rw [if_neg h, if_neg h]
    refine (lp_runP (F := fun fuel k z => f_CT_pairs_27 N x a M fuel z (iN (mpF (r.2 1) 12 z)) (iN k)) (f := prS (r.2 1)) (fin := fun z => some z) (n := cn (r.2 1) 6) (P := fun _ z => bdB (cn (r.2 1) 5) z) (fun fuel z _ => ?_) (fun fuel k z hk hz => ?_) _ 0 _ N (Nat.zero_add _) (by omega) (pt_bd G.I)).1
    · rw [f_CT_pairs_27, G.A.gN, ob, G.S.i0, ob, G.R.v6, G.I.n6, if_pos (i_le_rfl _)]
    · refine ⟨?_, prS_bd hz k⟩
      obtain ⟨eA, eB⟩ := G.R.E k hk
      rw [f_CT_pairs_27, G.A.gN, ob, G.S.i0, ob, G.R.v6, G.I.n6, if_neg (iN_nle hk (by omega)), ob, G.S.g_who, ob, G.S.a7 (by omega), ob, ob, G.S.g_whom, ob, G.S.a8 (by omega), ob, eA, eB, iN_s]
      show (if z &&& cdT (r.2 1) k = cdT (r.2 1) k then ((some (x + 2)).bind fun v13 => (f_CT_mostPairs N 12 v13 0 (z &&& (cdT (r.2 1) k ^^^ (-1))) M).bind fun z12 => if z12 = iN (mpF (r.2 1) 12 z) - 1 then f_CT_pairs_27 N x a M fuel (z &&& (cdT (r.2 1) k ^^^ (-1))) (iN (mpF (r.2 1) 12 z) + (-1)) (iN (k + 1)) else f_CT_pairs_27 N x a M fuel z (iN (mpF (r.2 1) 12 z)) (iN (k + 1))) else f_CT_pairs_27 N x a M fuel z (iN (mpF (r.2 1) 12 z)) (iN (k + 1))) = _
      rw [ob, pc _ (bd_and hz _), ob]
      have b1 := mpF_le (r.2 1) 12 z
      have b2 := mpF_le (r.2 1) 12 (z &&& (cdT (r.2 1) k ^^^ (-1)))
      unfold prS
      by_cases h1 : z &&& cdT (r.2 1) k = cdT (r.2 1) k
      · rw [if_pos h1]
        by_cases h2 : 1 + mpF (r.2 1) 12 (z &&& (cdT (r.2 1) k ^^^ (-1))) = mpF (r.2 1) 12 z
        · have e1 : iN (mpF (r.2 1) 12 z) - 1 = iN (mpF (r.2 1) 12 (z &&& (cdT (r.2 1) k ^^^ (-1)))) := by
            rw [show iN (mpF (r.2 1) 12 z) - 1 = iN (mpF (r.2 1) 12 z - 1) from iN_sub (b := 1) (by omega), ← h2, Nat.add_sub_cancel_left]
          rw [if_pos e1.symm, if_pos (And.intro h1 h2), show iN (mpF (r.2 1) 12 z) + (-1) = iN (mpF (r.2 1) 12 z) - 1 from (Int32.sub_eq_add_neg _ _).symm, e1]
        · have e1 : ¬ iN (mpF (r.2 1) 12 (z &&& (cdT (r.2 1) k ^^^ (-1)))) = iN (mpF (r.2 1) 12 z) - 1 := by
            by_cases h3 : mpF (r.2 1) 12 z = 0
            · rw [h3]
              exact fun w => iN_m1 (by omega) (w.trans (by decide))
            · rw [show iN (mpF (r.2 1) 12 z) - 1 = iN (mpF (r.2 1) 12 z - 1) from iN_sub (b := 1) (by omega)]
              exact iN_ne (by omega) (by omega) (by omega)
          rw [if_neg e1, if_neg (fun w => h2 w.2)]
      · rw [if_neg h1, if_neg (fun w => h1 w.1)]
theorem pairs_md (I : Inv (r.2 1)) (hN : 2000 < N) (a : Int32) : ∃ v q, f_R_pairs_7 N a N 0 r = some (v, q) ∧ Mq r q ∧ v = if a = 0 then iN (mpF (r.2 1) 12 (evS (r.2 1))) else lp (prS (r.2 1)) (cn (r.2 1) 6) 0 (evS (r.2 1)) &&& ptS (r.2 1) := by
  have h5 := I.b5
  have h6 := I.b6
  have lp53 : ∀ q, Mq r q → MI (r.2 1) q → ∃ v q2, f_R_pairs_53 N a N (evS (r.2 1)) 0 0 q = some (v, q2) ∧ Mq r q2 ∧ v = lp (prS (r.2 1)) (cn (r.2 1) 6) 0 (evS (r.2 1)) &&& ptS (r.2 1) := by
    intro q hq hm
    refine lp_inv (F := fun fuel k (z : (Int32 × Int32) × Rho) => f_R_pairs_53 N a fuel z.1.1 z.1.2 (iN k) z.2) (n := cn (r.2 1) 6) (P := fun k z => z.1.1 = lp (prS (r.2 1)) k 0 (evS (r.2 1)) ∧ bdB (cn (r.2 1) 5) z.1.1 ∧ (∀ i, i < 32 → (ib z.1.2 i = true ↔ ∃ j, j < k ∧ ib (cdT (r.2 1) j) i = true)) ∧ Mq r z.2 ∧ MI (r.2 1) z.2) (Q := fun t => ∃ v q2, t = some (v, q2) ∧ Mq r q2 ∧ v = lp (prS (r.2 1)) (cn (r.2 1) 6) 0 (evS (r.2 1)) &&& ptS (r.2 1)) (fun fuel z hz => ?_) (fun fuel k z hk hz => ?_) (cn (r.2 1) 6) 0 ((evS (r.2 1), 0), q) N (Nat.zero_add _) (by omega) ⟨rfl, bd_ev I, fun i hi => ⟨fun h => (by rw [ib_0] at h; exact Bool.noConfusion h), fun ⟨j, h, _⟩ => absurd h (Nat.not_lt_zero j)⟩, hq, hm⟩
    · obtain ⟨z1, z2, z3, z4, z5⟩ := hz
      refine ⟨z.1.1 &&& z.1.2, z.2, ?_, z4, ?_⟩
      · show f_R_pairs_53 N a (fuel + 1) z.1.1 z.1.2 (iN (cn (r.2 1) 6)) z.2 = _
        rw [f_R_pairs_53, rlm6, ob, z4.2 1 (by decide), I.n6, if_pos (i_le_rfl _)]
      · have e : z.1.2 = ptS (r.2 1) := ib_ext fun i hi => Bool.eq_iff_iff.mpr ((z3 i hi).trans (by
          rw [ib_pt I hi]
          constructor
          · rintro ⟨j, hj, h⟩
            obtain ⟨c, d, hc, hd, hcd, hh⟩ := ib_cdT I hj
            rcases (hh i hi).mp h with rfl | rfl
            · exact ⟨d, hd, by rw [tdB_comm]; exact hcd⟩
            · exact ⟨c, hc, hcd⟩
          · rintro ⟨c, hc, h⟩
            obtain ⟨j, hj, h2⟩ := (tdB_iff _ _ _).mp h
            refine ⟨j, hj, ?_⟩
            unfold cdT
            rcases h2 with ⟨h3, h4⟩ | ⟨h3, h4⟩
            · rw [h3, h4, ib_or, ib_shl hi, decide_eq_true (rfl : i = i), Bool.or_true]
            · rw [h3, h4, ib_or, ib_shl hi, decide_eq_true (rfl : i = i), Bool.true_or]))
        rw [z1, e]
    · obtain ⟨z1, z2, z3, z4, z5⟩ := hz
      have em : z.2.2 1 = r.2 1 := z4.2 1 (by decide)
      obtain ⟨q1, m1, hq1, hm1⟩ := pairsOf_md (r := r) (N := N) I (by omega) 12 (z.1.1 &&& (cdT (r.2 1) k ^^^ (-1))) z.2 (bd_and z2 _) (bd_ct h5 (bd_and z2 _)) (Nat.le_refl _) z4 z5
      obtain ⟨q2, m2, hq2, hm2⟩ := pairsOf_md (r := r) (N := N) I (by omega) 12 z.1.1 q1 z2 (bd_ct h5 z2) (Nat.le_refl _) hq1 hm1
      have b1 := mpF_le (r.2 1) 12 z.1.1
      have b2 := mpF_le (r.2 1) 12 (z.1.1 &&& (cdT (r.2 1) k ^^^ (-1)))
      have tied : ∀ i, i < 32 → (ib (z.1.2 ||| cdT (r.2 1) k) i = true ↔ ∃ j, j < k + 1 ∧ ib (cdT (r.2 1) j) i = true) := fun i hi => by
        rw [ib_or, Bool.or_eq_true, z3 i hi]
        constructor
        · rintro (⟨j, h1, h2⟩ | h)
          · exact ⟨j, by omega, h2⟩
          · exact ⟨k, by omega, h⟩
        · rintro ⟨j, h1, h2⟩
          by_cases hjk : j = k
          · rw [hjk] at h2; exact Or.inr h2
          · exact Or.inl ⟨j, by omega, h2⟩
      have e0 : f_R_pairs_53 N a (fuel + 1) z.1.1 z.1.2 (iN k) z.2 = if z.1.1 &&& cdT (r.2 1) k = cdT (r.2 1) k then (if 1 + iN (mpF (r.2 1) 12 (z.1.1 &&& (cdT (r.2 1) k ^^^ (-1)))) = iN (mpF (r.2 1) 12 z.1.1) then f_R_pairs_53 N a fuel (z.1.1 &&& (cdT (r.2 1) k ^^^ (-1))) (z.1.2 ||| cdT (r.2 1) k) (iN (k + 1)) q2 else f_R_pairs_53 N a fuel z.1.1 (z.1.2 ||| cdT (r.2 1) k) (iN (k + 1)) q2) else f_R_pairs_53 N a fuel z.1.1 (z.1.2 ||| cdT (r.2 1) k) (iN (k + 1)) z.2 := by
        rw [f_R_pairs_53, rlm6, ob, em, I.n6, if_neg (iN_nle hk (by omega)), who_k (by omega), ob, whom_k (by omega), ob, em, iN_s]
        show (if z.1.1 &&& cdT (r.2 1) k = cdT (r.2 1) k then ((f_R_pairsOf N 12 (z.1.1 &&& (cdT (r.2 1) k ^^^ (-1))) z.2).bind fun z7 => (f_R_pairsOf N 12 z.1.1 z7.2).bind fun z8 => if (1 + z7.1) = z8.1 then f_R_pairs_53 N a fuel (z.1.1 &&& (cdT (r.2 1) k ^^^ (-1))) (z.1.2 ||| cdT (r.2 1) k) (iN (k + 1)) z8.2 else f_R_pairs_53 N a fuel z.1.1 (z.1.2 ||| cdT (r.2 1) k) (iN (k + 1)) z8.2) else _) = _
        rw [m1, ob]
        dsimp only
        rw [m2, ob]
        rfl
      have e1 : lp (prS (r.2 1)) (k + 1) 0 (evS (r.2 1)) = prS (r.2 1) k z.1.1 := by rw [lp_snoc, Nat.zero_add, ← z1]
      rw [e1]
      by_cases h1 : z.1.1 &&& cdT (r.2 1) k = cdT (r.2 1) k
      · by_cases h2 : 1 + mpF (r.2 1) 12 (z.1.1 &&& (cdT (r.2 1) k ^^^ (-1))) = mpF (r.2 1) 12 z.1.1
        · have h3 : 1 + iN (mpF (r.2 1) 12 (z.1.1 &&& (cdT (r.2 1) k ^^^ (-1)))) = iN (mpF (r.2 1) 12 z.1.1) := by
            rw [← h2]; exact iN_add 1 _
          refine ⟨((prS (r.2 1) k z.1.1, z.1.2 ||| cdT (r.2 1) k), q2), ?_, rfl, prS_bd z2 k, tied, hq2, hm2⟩
          refine e0.trans ((if_pos h1).trans ((if_pos h3).trans ?_))
          unfold prS
          rw [if_pos (And.intro h1 h2)]
        · have h3 : ¬ 1 + iN (mpF (r.2 1) 12 (z.1.1 &&& (cdT (r.2 1) k ^^^ (-1)))) = iN (mpF (r.2 1) 12 z.1.1) := by
            rw [show (1 : Int32) + iN (mpF (r.2 1) 12 (z.1.1 &&& (cdT (r.2 1) k ^^^ (-1)))) = iN (1 + mpF (r.2 1) 12 (z.1.1 &&& (cdT (r.2 1) k ^^^ (-1)))) from iN_add 1 _]
            exact iN_ne h2 (by omega) (by omega)
          refine ⟨((prS (r.2 1) k z.1.1, z.1.2 ||| cdT (r.2 1) k), q2), ?_, rfl, prS_bd z2 k, tied, hq2, hm2⟩
          refine e0.trans ((if_pos h1).trans ((if_neg h3).trans ?_))
          unfold prS
          rw [if_neg (fun w => h2 w.2)]
      · refine ⟨((prS (r.2 1) k z.1.1, z.1.2 ||| cdT (r.2 1) k), z.2), ?_, rfl, prS_bd z2 k, tied, z4, z5⟩
        refine e0.trans ((if_neg h1).trans ?_)
        unfold prS
        rw [if_neg (fun w => h1 w.1)]
  refine lp_inv (F := fun fuel k z => f_R_pairs_7 N a fuel (iN k) z) (n := 1024) (P := fun k z => Mq r z ∧ ∀ j, j < k → z.2 24 j = -1) (Q := fun t => ∃ v q, t = some (v, q) ∧ Mq r q ∧ v = if a = 0 then iN (mpF (r.2 1) 12 (evS (r.2 1))) else lp (prS (r.2 1)) (cn (r.2 1) 6) 0 (evS (r.2 1)) &&& ptS (r.2 1)) (fun fuel z hz => ?_) (fun fuel k z hk hz => ?_) 1024 0 r N (Nat.zero_add _) (by omega) ⟨⟨rfl, fun _ _ => rfl⟩, fun j hj => absurd hj (Nat.not_lt_zero j)⟩
  · obtain ⟨z1, z2⟩ := hz
    have em : z.2 1 = r.2 1 := z1.2 1 (by decide)
    have hm : MI (r.2 1) z := fun k hk => Or.inl (z2 k hk)
    have ee : ((1 : Int32) <<< (r.2 1 5 &&& 31)) - 1 = evS (r.2 1) := rfl
    rw [f_R_pairs_7, if_pos (show (1024 : Int32) ≤ iN 1024 from i_le_rfl _), rlm5, ob, em, ee]
    by_cases h : a = 0
    · obtain ⟨q2, m2, hq2, -⟩ := pairsOf_md (r := r) (N := N) I (by omega) 12 (evS (r.2 1)) z (bd_ev I) (bd_ct h5 (bd_ev I)) (Nat.le_refl _) z1 hm
      rw [if_pos h, m2, ob, if_pos h]
      exact ⟨_, q2, rfl, hq2, rfl⟩
    · rw [if_neg h, if_neg h]
      exact lp53 z z1 hm
  · refine ⟨r_st z 24 k (-1), ?_, ⟨hz.1.1, fun j hj => (rst_ne hj).trans (hz.1.2 j hj)⟩, fun j hj => ?_⟩
    · rw [f_R_pairs_7, if_neg (show ¬ (1024 : Int32) ≤ iN k from iN_nle (n := 1024) hk (by decide)), yw24 hk, ob, iN_s]
    · rw [rst_own]
      by_cases h : j = k
      · rw [if_pos h]
      · rw [if_neg h]; exact hz.2 j (by omega)
theorem op_pairs (G : GS N x o ps ys M r) (hN : 20000 ≤ N) : ∃ v q, f_CT_pairs N x a M = some v ∧ f_R_pairs N a r = some (v, q) ∧ GS N x o ps ys M q := by
  have h5 := G.I.b5
  obtain ⟨v, q, m1, hq, ev⟩ := pairs_md (r := r_set r 0 0) (N := N) G.I (by omega) a
  have m1 : f_R_pairs N a r = some (v, q) := m1
  have ev : v = if a = 0 then iN (mpF (r.2 1) 12 (evS (r.2 1))) else lp (prS (r.2 1)) (cn (r.2 1) 6) 0 (evS (r.2 1)) &&& ptS (r.2 1) := ev
  have s : S0 (r_set r 0 0) q := by
    refine ⟨⟨hq.2 1 (by decide), hq.2 2 (by decide), hq.2 5 (by decide), hq.2 7 (by decide)⟩, ?_, ?_, ?_, ?_, fun z => ?_⟩
    · rw [hq.1]
    · rw [hq.1]
    · rw [hq.1]
    · rw [hq.1]
    · unfold Bz
      rw [hq.1]
      exact z
  refine ⟨v, q, ?_, m1, (G.th 0).s0 s⟩
  have e0 : evS (r.2 1) &&& ptS (r.2 1) = ptS (r.2 1) := by
    rw [Int32.and_comm]
    exact and_ev G.I (pt_bd G.I)
  rw [pairs_cl G (by omega) a, ev]
  by_cases h : a = 0
  · rw [if_pos h, if_pos h, mpF_T (m := r.2 1) (T := ptS (r.2 1)) (pt_T G.I) 12 (evS (r.2 1)) (Nat.le_of_lt (bd_ct h5 (bd_ev G.I))), e0]
  · rw [if_neg h, if_neg h]
    refine congrArg some ?_
    have key : ∀ (j k : Nat) (S : Int32), k + j = cn (r.2 1) 6 → bdB (cn (r.2 1) 5) S → lp (prS (r.2 1)) j k (S &&& ptS (r.2 1)) = lp (prS (r.2 1)) j k S &&& ptS (r.2 1) := by
      intro j
      induction j with
      | zero => intros; rfl
      | succ j ih =>
        intro k S hk hb
        show lp (prS (r.2 1)) j (k + 1) (prS (r.2 1) k (S &&& ptS (r.2 1))) = lp (prS (r.2 1)) j (k + 1) (prS (r.2 1) k S) &&& ptS (r.2 1)
        rw [← prS_T G.I hb (by omega)]
        exact ih (k + 1) _ (by omega) (prS_bd hb k)
    rw [← key _ 0 _ (Nat.zero_add _) (bd_ev G.I), e0]
end Pd
