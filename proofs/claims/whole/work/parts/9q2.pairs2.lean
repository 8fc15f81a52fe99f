section Pb
variable {N x o t B n p k w i s : Nat} {ps ys zs : Nat → Nat} {M K L : Mem} {r q : Rho} {a b g u v S T : Int32} {m m2 m0 : Nat → Int32}
/-- below n alone -/
def bdB (n : Nat) (S : Int32) : Prop := ∀ i, n ≤ i → ib S i = false
theorem bd_rm (h : bdB n S) (i : Nat) : bdB n (rmB S i) := fun j hj => by
  unfold rmB
  rw [ib_and, h j hj, Bool.false_and]
theorem bd_lt (h : bdB n S) (hi : ib S i = true) : i < n := by
  refine Nat.lt_of_not_le fun h2 => ?_
  rw [h i h2] at hi
  cases hi
theorem bd_num (hn : n ≤ 10) (h : bdB n S) : ∃ k, k < 1024 ∧ S = iN k := by
  refine ⟨S.toBitVec.toNat, ?_, u_iN rfl⟩
  refine Nat.lt_pow_two_of_testBit (n := 10) _ fun i hi => ?_
  exact h i (by omega)
theorem ntz_all : ∀ k : Fin 1024, k.val ≠ 0 → f_Integer_numberOfTrailingZeros (iN k.val) = some (iN (loB (iN k.val))) := by decide +kernel
theorem ntz_eq (hn : n ≤ 10) (h : bdB n S) (h0 : S ≠ 0) : f_Integer_numberOfTrailingZeros S = some (iN (loB S)) := by
  obtain ⟨k, hk, rfl⟩ := bd_num hn h
  exact ntz_all ⟨k, hk⟩ fun q => h0 (by rw [show k = 0 from q]; rfl)
theorem and_ev (I : Inv m) (h : bdB (cn m 5) S) : S &&& evS m = S := by
  have h5 := I.b5
  rw [evS_eq I]
  refine ib_ext fun i hi => ?_
  have e := ev_all ⟨cn m 5, by omega⟩ ⟨i, hi⟩
  dsimp only at e
  rw [ib_and, e]
  by_cases h2 : i < cn m 5
  · rw [decide_eq_true h2, Bool.and_true]
  · rw [h i (by omega), Bool.false_and]
theorem mostPairs_cl (G : GS N x o ps ys M r) (hN : 100 < N) : ∀ (d : Nat) (S : Int32), bdB (cn (r.2 1) 5) S → ctB (ib S) 32 < d → d ≤ 12 → f_CT_mostPairs N d x S M = some (iN (mpF (r.2 1) d S)) := by
  have h5 := G.I.b5
  intro d
  induction d with
  | zero => intro S _ h; exact absurd h (Nat.not_lt_zero _)
  | succ d ih =>
    intro S hb hc hd
    rw [f_CT_mostPairs, G.A.gN, ob, G.S.c0, ob, f_Town_everybody_eq G.S G.R, ob, and_ev G.I hb, mpF_s]
    by_cases h : S = 0
    · rw [if_pos h, if_pos h]; rfl
    · obtain ⟨l1, l2, l3⟩ := loB_p h
      have lp5 := bd_lt hb l2
      have hcr := ct_rm l1 l2
      rw [if_neg h, if_neg h, ntz_eq h5 hb h, ob, G.A.c, ob]
      show ((f_CT_mostPairs N d x (rmB S (loB S)) M).bind fun z4 => ((some (x + 2)).bind fun v5 => (gR M 7 v5 1).bind fun v6 => (ard M 2 v6 (iN (loB S))).bind fun v7 => (gI M 5 v7 5).bind fun v8 => f_CT_mostPairs_58 N (f_CT_mostPairs N d) x S M N (rmB S (loB S)) z4 (v8 &&& rmB S (loB S)) 0)) = _
      rw [ih _ (bd_rm hb _) (by omega) (by omega), ob, ob, G.S.g_people, ob, G.S.g_person (show loB S < 10 by omega), ob, G.S.iP (show loB S < 10 by omega), ob, G.R.q5 G.I lp5]
      refine (lp_runP (F := fun fuel k (z : Nat) => f_CT_mostPairs_58 N (f_CT_mostPairs N d) x S M fuel (rmB S (loB S)) (iN z) (tdS (r.2 1) (loB S) &&& rmB S (loB S)) (iN k)) (f := mxS (r.2 1) (mpF (r.2 1) d) (loB S) (rmB S (loB S))) (fin := fun z => some (iN z)) (n := cn (r.2 1) 5) (P := fun _ z => z ≤ 13) (fun fuel z _ => ?_) (fun fuel k z hk hz => ?_) _ 0 _ N (Nat.zero_add _) (by omega) ?_).1
      · rw [f_CT_mostPairs_58, G.A.gN, ob, G.S.i0, ob, G.R.v5, G.I.n5, if_pos (i_le_rfl _)]
      · have e : ib (tdS (r.2 1) (loB S) &&& rmB S (loB S)) k = true ↔ (ib (rmB S (loB S)) k = true ∧ tdB (r.2 1) (loB S) k = true) := by
          rw [ib_and, ib_tdS G.I (show loB S < 100 by omega) (show k < 32 by omega), Bool.and_eq_true]
          exact And.comm
        rw [f_CT_mostPairs_58, G.A.gN, ob, G.S.i0, ob, G.R.v5, G.I.n5, if_neg (iN_nle hk (by omega)), f_CT_isIn_eq (by omega), ob, iN_s]
        unfold mxS
        by_cases h2 : ib (rmB S (loB S)) k = true ∧ tdB (r.2 1) (loB S) k = true
        · have hcr2 := ct_rm (ib_lt h2.1) h2.1
          have hle := mpF_le (r.2 1) d (rmB (rmB S (loB S)) k)
          have hih : f_CT_mostPairs N d x (rmB S (loB S) &&& (((1 : Int32) <<< (iN k &&& 31)) ^^^ (-1))) M = some (iN (mpF (r.2 1) d (rmB (rmB S (loB S)) k))) := ih (rmB (rmB S (loB S)) k) (bd_rm (bd_rm hb _) k) (by omega) (by omega)
          rw [e.mpr h2, if_neg (show ¬ b01 true = 0 by decide), G.A.c, ob, hih, ob, max_eq, ob, if_pos h2, show (1 : Int32) + iN (mpF (r.2 1) d (rmB (rmB S (loB S)) k)) = iN (1 + mpF (r.2 1) d (rmB (rmB S (loB S)) k)) from iN_add 1 _]
          by_cases h3 : z < 1 + mpF (r.2 1) d (rmB (rmB S (loB S)) k)
          · rw [if_pos (iN_ylt h3 (by omega)), if_pos h3]
            exact ⟨rfl, by omega⟩
          · rw [if_neg (iN_nlt (by omega) (by omega)), if_neg h3]
            exact ⟨rfl, hz⟩
        · rw [Bool.eq_false_iff.mpr (fun q => h2 (e.mp q)), if_pos (show b01 false = 0 from rfl), if_neg h2]
          exact ⟨rfl, hz⟩
      · have := mpF_le (r.2 1) d (rmB S (loB S))
        omega
theorem y24 (h : k < 1024) : rld r 24 (iN k) = some (r.2 24 k) := rld_iN (j := 24) h
theorem yw24 {v : Int32} (h : k < 1024) : rst r 24 (iN k) v = some (r_st r 24 k v) := rst_iN (j := 24) h
/-- the same, but for what is remembered of sets -/
def Mq (r q : Rho) : Prop := q.1 = r.1 ∧ ∀ j, j ≠ 24 → q.2 j = r.2 j
def MI (m : Nat → Int32) (q : Rho) : Prop := ∀ k, k < 1024 → q.2 24 k = -1 ∨ q.2 24 k = iN (mpF m 12 (iN k))
theorem pairsOf_md (I : Inv (r.2 1)) (hN : 100 < N) : ∀ (d : Nat) (S : Int32) (q : Rho), bdB (cn (r.2 1) 5) S → ctB (ib S) 32 < d → d ≤ 12 → Mq r q → MI (r.2 1) q → ∃ q2, f_R_pairsOf N d S q = some (iN (mpF (r.2 1) 12 S), q2) ∧ Mq r q2 ∧ MI (r.2 1) q2 := by
  have h5 := I.b5
  intro d
  induction d with
  | zero => intro S q _ h; exact absurd h (Nat.not_lt_zero _)
  | succ d ih =>
    intro S q hb hc hd hq hm
    rw [f_R_pairsOf]
    by_cases h : S = 0
    · rw [if_pos h, h, mpF_0]
      exact ⟨q, rfl, hq, hm⟩
    · obtain ⟨l1, l2, l3⟩ := loB_p h
      have lp5 := bd_lt hb l2
      have hcr := ct_rm l1 l2
      obtain ⟨k, hk, ek⟩ := bd_num h5 hb
      have hl := mpF_le (r.2 1) 12 S
      rw [if_neg h, show rld q 24 S = some (q.2 24 k) by rw [ek]; exact y24 hk, ob]
      rcases hm k hk with h1 | h1
      · rw [if_pos h1]
        have find : ∀ (j i fuel : Nat), i + j = loB S → j < fuel → f_R_pairsOf_25 N (f_R_pairsOf N d) S fuel (iN i) q = (f_R_pairsOf N d (rmB S (loB S)) q).bind fun z4 => f_R_pairsOf_59 N (f_R_pairsOf N d) S N (iN (loB S)) (rmB S (loB S)) z4.1 (iN (loB S + 1)) z4.2 := by
          intro j
          induction j with
          | zero =>
            intro i fuel hi hf
            obtain ⟨fu, rfl⟩ : ∃ fu, fuel = fu + 1 := ⟨fuel - 1, by omega⟩
            obtain rfl : i = loB S := by omega
            rw [f_R_pairsOf_25, f_R_isOf_eq l1, ob, l2, if_neg (show ¬ b01 true = 0 by decide), iN_s]
            rfl
          | succ j ih2 =>
            intro i fuel hi hf
            obtain ⟨fu, rfl⟩ : ∃ fu, fuel = fu + 1 := ⟨fuel - 1, by omega⟩
            rw [f_R_pairsOf_25, f_R_isOf_eq (show i < 32 by omega), ob, l3 i (by omega), if_pos (show b01 false = 0 from rfl), iN_s]
            exact ih2 (i + 1) fu (by omega) (by omega)
        rw [show f_R_pairsOf_25 N (f_R_pairsOf N d) S N 0 q = _ from find (loB S) 0 N (Nat.zero_add _) (by omega)]
        obtain ⟨q1, m1, hq1, hm1⟩ := ih (rmB S (loB S)) q (bd_rm hb _) (by omega) (by omega) hq hm
        rw [m1, ob]
        dsimp only
        have idle : lp (mxS (r.2 1) (mpF (r.2 1) 12) (loB S) (rmB S (loB S))) (loB S + 1) 0 (mpF (r.2 1) 12 (rmB S (loB S))) = mpF (r.2 1) 12 (rmB S (loB S)) := lp_idle _ _ _ fun i _ hi => by
          unfold mxS
          rw [if_neg]
          intro w
          rw [ib_rm S l1 (by omega)] at w
          by_cases hil : i = loB S
          · rw [hil] at w; simp at w
          · rw [l3 i (by omega)] at w; simp at w
        have bnd : ∀ k, lp (mxS (r.2 1) (mpF (r.2 1) 12) (loB S) (rmB S (loB S))) k 0 (mpF (r.2 1) 12 (rmB S (loB S))) ≤ 13 := fun k => lp_pres (P := fun z => z ≤ 13) (fun i z hz => by
          unfold mxS
          have := mpF_le (r.2 1) 12 (rmB (rmB S (loB S)) i)
          by_cases h2 : ib (rmB S (loB S)) i = true ∧ tdB (r.2 1) (loB S) i = true
          · rw [if_pos h2]
            by_cases h3 : z < 1 + mpF (r.2 1) 12 (rmB (rmB S (loB S)) i)
            · rw [if_pos h3]; omega
            · rw [if_neg h3]; exact hz
          · rw [if_neg h2]; exact hz) _ _ _ (Nat.le_succ_of_le (mpF_le _ _ _))
        have fin : mpF (r.2 1) 12 S = lp (mxS (r.2 1) (mpF (r.2 1) 12) (loB S) (rmB S (loB S))) (cn (r.2 1) 5) 0 (mpF (r.2 1) 12 (rmB S (loB S))) := by
          rw [mpF_st (r.2 1) 12 13 S (by omega) (by omega), mpF_s, if_neg h]
        refine lp_inv (F := fun fuel k (z : Int32 × Rho) => f_R_pairsOf_59 N (f_R_pairsOf N d) S fuel (iN (loB S)) (rmB S (loB S)) z.1 (iN k) z.2) (n := cn (r.2 1) 5) (P := fun k z => z.1 = iN (lp (mxS (r.2 1) (mpF (r.2 1) 12) (loB S) (rmB S (loB S))) k 0 (mpF (r.2 1) 12 (rmB S (loB S)))) ∧ Mq r z.2 ∧ MI (r.2 1) z.2) (Q := fun t => ∃ q2, t = some (iN (mpF (r.2 1) 12 S), q2) ∧ Mq r q2 ∧ MI (r.2 1) q2) (fun fuel z hz => ?_) (fun fuel i z hi hz => ?_) (cn (r.2 1) 5 - (loB S + 1)) (loB S + 1) (iN (mpF (r.2 1) 12 (rmB S (loB S))), q1) N (by omega) (by omega) ⟨by rw [idle], hq1, hm1⟩
        · obtain ⟨z1, z2, z3⟩ := hz
          refine ⟨r_st z.2 24 k (iN (mpF (r.2 1) 12 S)), ?_, ⟨z2.1, fun j hj => (rst_ne hj).trans (z2.2 j hj)⟩, fun k2 hk2 => ?_⟩
          · show f_R_pairsOf_59 N (f_R_pairsOf N d) S (fuel + 1) (iN (loB S)) (rmB S (loB S)) z.1 (iN (cn (r.2 1) 5)) z.2 = _
            rw [f_R_pairsOf_59, rlm5, ob, z2.2 1 (by decide), I.n5, if_pos (i_le_rfl _), z1, ← fin]
            rw [show rst z.2 24 S (iN (mpF (r.2 1) 12 S)) = some (r_st z.2 24 k (iN (mpF (r.2 1) 12 S))) by
              generalize iN (mpF (r.2 1) 12 S) = vv
              rw [ek]
              exact yw24 hk, ob]
          · rw [rst_own]
            by_cases h2 : k2 = k
            · rw [if_pos h2, h2, ← ek]; exact Or.inr rfl
            · rw [if_neg h2]; exact z3 k2 hk2
        · obtain ⟨z1, z2, z3⟩ := hz
          have em : z.2.2 1 = r.2 1 := z2.2 1 (by decide)
          have bi := bnd i
          have e0 : f_R_pairsOf_59 N (f_R_pairsOf N d) S (fuel + 1) (iN (loB S)) (rmB S (loB S)) z.1 (iN i) z.2 = if b01 (ib (rmB S (loB S)) i) = 0 then f_R_pairsOf_59 N (f_R_pairsOf N d) S fuel (iN (loB S)) (rmB S (loB S)) z.1 (iN (i + 1)) z.2 else (if b01 (tdB (r.2 1) (loB S) i) = 0 then f_R_pairsOf_59 N (f_R_pairsOf N d) S fuel (iN (loB S)) (rmB S (loB S)) z.1 (iN (i + 1)) z.2 else ((f_R_pairsOf N d (rmB (rmB S (loB S)) i) z.2).bind fun z9 => (f_R_greater z.1 (1 + z9.1)).bind fun z10 => f_R_pairsOf_59 N (f_R_pairsOf N d) S fuel (iN (loB S)) (rmB S (loB S)) z10 (iN (i + 1)) z9.2)) := by
            rw [f_R_pairsOf_59, rlm5, ob, em, I.n5, if_neg (iN_nle hi (by omega)), f_R_isOf_eq (show i < 32 by omega), ob, f_R_areTied_eq (r := z.2) (by rw [em]; exact I) (by omega), ob, em, iN_s]
            rfl
          rw [show lp (mxS (r.2 1) (mpF (r.2 1) 12) (loB S) (rmB S (loB S))) (i + 1) 0 (mpF (r.2 1) 12 (rmB S (loB S))) = mxS (r.2 1) (mpF (r.2 1) 12) (loB S) (rmB S (loB S)) i (lp (mxS (r.2 1) (mpF (r.2 1) 12) (loB S) (rmB S (loB S))) i 0 (mpF (r.2 1) 12 (rmB S (loB S)))) by rw [lp_snoc, Nat.zero_add]]
          generalize lp (mxS (r.2 1) (mpF (r.2 1) 12) (loB S) (rmB S (loB S))) i 0 (mpF (r.2 1) 12 (rmB S (loB S))) = zz at *
          unfold mxS
          by_cases h2 : ib (rmB S (loB S)) i = true ∧ tdB (r.2 1) (loB S) i = true
          · have hcr2 := ct_rm (ib_lt h2.1) h2.1
            have hle := mpF_le (r.2 1) 12 (rmB (rmB S (loB S)) i)
            obtain ⟨q2, m2, hq2, hm2⟩ := ih (rmB (rmB S (loB S)) i) z.2 (bd_rm (bd_rm hb _) i) (by omega) (by omega) z2 z3
            rw [if_pos h2]
            refine ⟨(iN (if zz < 1 + mpF (r.2 1) 12 (rmB (rmB S (loB S)) i) then 1 + mpF (r.2 1) 12 (rmB (rmB S (loB S)) i) else zz), q2), ?_, rfl, hq2, hm2⟩
            refine e0.trans ?_
            rw [h2.1, h2.2, if_neg (show ¬ b01 true = 0 by decide), if_neg (show ¬ b01 true = 0 by decide), m2, ob]
            dsimp only
            rw [greater_eq, ob, z1, show (1 : Int32) + iN (mpF (r.2 1) 12 (rmB (rmB S (loB S)) i)) = iN (1 + mpF (r.2 1) 12 (rmB (rmB S (loB S)) i)) from iN_add 1 _]
            by_cases h3 : zz < 1 + mpF (r.2 1) 12 (rmB (rmB S (loB S)) i)
            · rw [if_pos (iN_ylt h3 (by omega)), if_pos h3]
            · rw [if_neg (iN_nlt (by omega) (by omega)), if_neg h3]
          · rw [if_neg h2]
            refine ⟨z, ?_, z1, z2, z3⟩
            refine e0.trans ?_
            by_cases h3 : ib (rmB S (loB S)) i = true
            · have h4 : tdB (r.2 1) (loB S) i = false := Bool.eq_false_iff.mpr fun w => h2 ⟨h3, w⟩
              rw [h3, h4, if_neg (show ¬ b01 true = 0 by decide), if_pos (show b01 false = 0 from rfl)]
            · rw [Bool.eq_false_iff.mpr h3, if_pos (show b01 false = 0 from rfl)]
      · rw [if_neg (by rw [h1]; exact iN_m1 (by rw [← ek]; omega)), ob, h1, ← ek]
        exact ⟨q, rfl, hq, hm⟩
end Pb
