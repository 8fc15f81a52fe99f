section Pb
variable {N x o t B n p k w i s : Nat} {ps ys zs : Nat → Nat} {M K L : Mem} {r q : Rho} {a b g u v S T : Int32} {m m2 m0 : Nat → Int32}
/-- below n alone -/
def bdB (n : Nat) (S : Int32) : Prop := ∀ i, n ≤ i → ib S i = false
theorem bd_rm (h : bdB n S) (i : Nat) : bdB n (rmB S i) := fun j hj => by
  unfold rmB
  rw [ib_and, h j hj, Bool.false_and]
theorem bd_lt (h : bdB n S) (hi : ib S i = true) : i < n := by
  refine Nat.lt_of_not_le fun h2 => ?_
  rw [h i h2] at hi
  cases hi
theorem bd_num (hn : n ≤ 10) (h : bdB n S) : ∃ k, k < 1024 ∧ S = iN k := by
  refine ⟨S.toBitVec.toNat, ?_, u_iN rfl⟩
  refine Nat.lt_pow_two_of_testBit (n := 10) _ fun i hi => ?_
  exact h i (by omega)
theorem and_ev (I : Inv m) (h : bdB (cn m 5) S) : S &&& evS m = S := by
  have h5 := I.b5
  rw [evS_eq I]
  refine ib_ext fun i hi => ?_
  have e := ev_all ⟨cn m 5, by omega⟩ ⟨i, hi⟩
  dsimp only at e
  rw [ib_and, e]
  by_cases h2 : i < cn m 5
  · rw [decide_eq_true h2, Bool.and_true]
  · rw [h i (by omega), Bool.false_and]
theorem bd_ct (hn : n ≤ 10) (h : bdB n S) : ctB (ib S) 32 < 12 := by
  have e : ∀ k, ctB (ib S) (n + k) = ctB (ib S) n := by
    intro k
    induction k with
    | zero => rfl
    | succ k ih =>
      show ctB (ib S) (n + k + 1) = _
      rw [ctB_s, ih, h (n + k) (by omega), if_neg (by decide), Nat.add_zero]
  have h1 := e (32 - n)
  rw [show n + (32 - n) = 32 by omega] at h1
  have := ctB_le (ib S) n
  omega
/-- those from k on -/
def hiB (k : Nat) (S : Int32) : Int32 := setB (fun i => decide (k ≤ i) && ib S i) 32
theorem ib_hi (k : Nat) (S : Int32) {i : Nat} (hi : i < 32) : ib (hiB k S) i = (decide (k ≤ i) && ib S i) := by
  unfold hiB
  rw [ib_setB _ (Nat.le_refl 32), decide_eq_true hi, Bool.true_and]
theorem bd_hi (h : bdB n S) (k : Nat) : bdB n (hiB k S) := fun j hj => by
  by_cases h2 : j < 32
  · rw [ib_hi k S h2, h j hj, Bool.and_false]
  · exact ib_big _ (Nat.le_of_not_lt h2)
theorem hi_0 (S : Int32) : hiB 0 S = S := ib_ext fun i hi => by
  rw [ib_hi 0 S hi, decide_eq_true (Nat.zero_le i), Bool.true_and]
theorem hi_n (h : bdB n S) : hiB n S = 0 := ib_ext fun i hi => by
  rw [ib_hi n S hi, ib_0]
  by_cases h2 : n ≤ i
  · rw [h i h2, Bool.and_false]
  · rw [decide_eq_false h2, Bool.false_and]
theorem hi_s (h : ib S k = false) : hiB k S = hiB (k + 1) S := ib_ext fun i hi => by
  rw [ib_hi k S hi, ib_hi (k + 1) S hi]
  by_cases h2 : i = k
  · rw [h2, h, Bool.and_false, Bool.and_false]
  · by_cases h4 : k ≤ i
    · rw [decide_eq_true h4, decide_eq_true (show k + 1 ≤ i by omega)]
    · rw [decide_eq_false h4, decide_eq_false (show ¬ k + 1 ≤ i by omega)]
theorem hi_rm (hk : k < 32) : rmB (hiB k S) k = hiB (k + 1) S := ib_ext fun i hi => by
  rw [ib_rm _ hk hi, ib_hi k S hi, ib_hi (k + 1) S hi]
  by_cases h2 : i = k
  · rw [decide_eq_true h2, decide_eq_false (show ¬ k + 1 ≤ i by omega)]; simp
  · by_cases h4 : k ≤ i
    · rw [decide_eq_false h2, decide_eq_true h4, decide_eq_true (show k + 1 ≤ i by omega)]; simp
    · rw [decide_eq_false h2, decide_eq_false h4, decide_eq_false (show ¬ k + 1 ≤ i by omega)]; simp
theorem hi_rm2 (hp : p < 32) : hiB k (rmB S p) = rmB (hiB k S) p := ib_ext fun i hi => by
  rw [ib_hi k _ hi, ib_rm S hp hi, ib_rm _ hp hi, ib_hi k S hi, Bool.and_assoc]
theorem mostPairs_cl (G : GS N x o ps ys M r) (hN : 100 < N) : ∀ (d k : Nat) (S : Int32), bdB (cn (r.2 1) 5) S → cn (r.2 1) 5 < k + d → k ≤ cn (r.2 1) 5 → f_CT_mostPairs N d (x + 2) (iN k) S M = some (iN (mpF (r.2 1) 12 (hiB k S))) := by
  have h5 := G.I.b5
  intro d
  induction d with
  | zero => intro k S _ h1 h2; omega
  | succ d ih =>
    intro k S hb h1 h2
    rw [f_CT_mostPairs, if_neg (show ¬ iN k < (0 : Int32) from iN_nlt (n := 0) (Nat.zero_le _) (by omega)), G.S.i0, ob, G.R.v5, G.I.n5]
    by_cases hk : k < cn (r.2 1) 5
    · rw [if_pos (iN_ylt hk (by omega)), iN_s, ih (k + 1) S hb (by omega) (by omega), ob, f_CT_isIn_eq (show k < 32 by omega), ob]
      by_cases hin : ib S k = true
      · have l1 : ib (hiB k S) k = true := by rw [ib_hi k S (by omega), decide_eq_true (Nat.le_refl k), hin]; rfl
        have l3 : ∀ j, j < k → ib (hiB k S) j = false := fun j hj => by rw [ib_hi k S (by omega), decide_eq_false (show ¬ k ≤ j by omega), Bool.false_and]
        have hlo : loB (hiB k S) = k := loB_u (by omega) l1 l3
        have hne : hiB k S ≠ 0 := fun q => by
          rw [q, ib_0] at l1
          cases l1
        have hbk := bd_ct h5 (bd_hi hb k)
        have fin : mpF (r.2 1) 12 (hiB k S) = lp (mxS (r.2 1) (mpF (r.2 1) 12) k (hiB (k + 1) S)) (cn (r.2 1) 5) 0 (mpF (r.2 1) 12 (hiB (k + 1) S)) := by
          rw [mpF_st (r.2 1) 12 13 (hiB k S) (by omega) (by omega), mpF_s (r.2 1) 12 (hiB k S), if_neg hne, hlo, hi_rm (show k < 32 by omega)]
        have idle : lp (mxS (r.2 1) (mpF (r.2 1) 12) k (hiB (k + 1) S)) (k + 1) 0 (mpF (r.2 1) 12 (hiB (k + 1) S)) = mpF (r.2 1) 12 (hiB (k + 1) S) := lp_idle _ _ _ fun i _ hi => by
          unfold mxS
          rw [if_neg]
          intro w
          rw [ib_hi (k + 1) S (by omega), decide_eq_false (show ¬ k + 1 ≤ i by omega), Bool.false_and] at w
          exact Bool.noConfusion w.1
        have full : lp (mxS (r.2 1) (mpF (r.2 1) 12) k (hiB (k + 1) S)) (cn (r.2 1) 5) 0 (mpF (r.2 1) 12 (hiB (k + 1) S)) = lp (mxS (r.2 1) (mpF (r.2 1) 12) k (hiB (k + 1) S)) (cn (r.2 1) 5 - (k + 1)) (k + 1) (mpF (r.2 1) 12 (hiB (k + 1) S)) := by
          have h := lp_split (mxS (r.2 1) (mpF (r.2 1) 12) k (hiB (k + 1) S)) (cn (r.2 1) 5 - (k + 1)) (k + 1) 0 (mpF (r.2 1) 12 (hiB (k + 1) S))
          rw [idle, Nat.zero_add, show k + 1 + (cn (r.2 1) 5 - (k + 1)) = cn (r.2 1) 5 by omega] at h
          exact h
        rw [hin, if_neg (show ¬ b01 true = 0 by decide), G.S.g_people, ob, G.S.g_person (show k < 10 by omega), ob, G.S.iP (show k < 10 by omega), ob, G.R.q5 G.I hk, fin, full]
        refine (lp_runP (F := fun fuel k2 (z : Nat) => f_CT_mostPairs_51 N (f_CT_mostPairs N d) (x + 2) (iN k) S M fuel (iN z) (tdS (r.2 1) k &&& S) (iN k2)) (f := mxS (r.2 1) (mpF (r.2 1) 12) k (hiB (k + 1) S)) (fin := fun z => some (iN z)) (n := cn (r.2 1) 5) (P := fun k2 z => k + 1 ≤ k2 ∧ z ≤ 13) (fun fuel z _ => ?_) (fun fuel k2 z hk2 hz => ?_) (cn (r.2 1) 5 - (k + 1)) (k + 1) (mpF (r.2 1) 12 (hiB (k + 1) S)) N (by omega) (by omega) ⟨Nat.le_refl _, Nat.le_succ_of_le (mpF_le _ _ _)⟩).1
        · rw [f_CT_mostPairs_51, G.S.i0, ob, G.R.v5, G.I.n5, if_pos (i_le_rfl _)]
        · obtain ⟨hz1, hz2⟩ := hz
          have e : ib (tdS (r.2 1) k &&& S) k2 = true ↔ (ib (hiB (k + 1) S) k2 = true ∧ tdB (r.2 1) k k2 = true) := by
            rw [ib_and, ib_tdS G.I (show k < 100 by omega) (show k2 < 32 by omega), ib_hi (k + 1) S (show k2 < 32 by omega), decide_eq_true hz1, Bool.true_and, Bool.and_eq_true]
            exact And.comm
          rw [f_CT_mostPairs_51, G.S.i0, ob, G.R.v5, G.I.n5, if_neg (iN_nle hk2 (by omega)), f_CT_isIn_eq (show k2 < 32 by omega), ob, iN_s k, iN_s k2]
          unfold mxS
          by_cases h3 : ib (hiB (k + 1) S) k2 = true ∧ tdB (r.2 1) k k2 = true
          · have hle := mpF_le (r.2 1) 12 (rmB (hiB (k + 1) S) k2)
            have hih : f_CT_mostPairs N d (x + 2) (iN (k + 1)) (S &&& (((1 : Int32) <<< (iN k2 &&& 31)) ^^^ (-1))) M = some (iN (mpF (r.2 1) 12 (rmB (hiB (k + 1) S) k2))) := by
              rw [← hi_rm2 (show k2 < 32 by omega)]
              exact ih (k + 1) (rmB S k2) (bd_rm hb _) (by omega) (by omega)
            rw [e.mpr h3, if_neg (show ¬ b01 true = 0 by decide), hih, ob, max_eq, ob, if_pos h3, show (1 : Int32) + iN (mpF (r.2 1) 12 (rmB (hiB (k + 1) S) k2)) = iN (1 + mpF (r.2 1) 12 (rmB (hiB (k + 1) S) k2)) from iN_add 1 _]
            by_cases h4 : z < 1 + mpF (r.2 1) 12 (rmB (hiB (k + 1) S) k2)
            · rw [if_pos (iN_ylt h4 (by omega)), if_pos h4]
              exact ⟨rfl, by omega, by omega⟩
            · rw [if_neg (iN_nlt (by omega) (by omega)), if_neg h4]
              exact ⟨rfl, by omega, hz2⟩
          · rw [Bool.eq_false_iff.mpr (fun q => h3 (e.mp q)), if_pos (show b01 false = 0 from rfl), if_neg h3]
            exact ⟨rfl, by omega, hz2⟩
      · rw [Bool.eq_false_iff.mpr hin, if_pos (show b01 false = 0 from rfl), hi_s (Bool.eq_false_iff.mpr hin)]
    · rw [if_neg (iN_nlt (by omega) (by omega)), show k = cn (r.2 1) 5 by omega, hi_n hb, mpF_0]
      rfl
theorem y24 (h : k < 1024) : rld r 24 (iN k) = some (r.2 24 k) := rld_iN (j := 24) h
theorem yw24 {v : Int32} (h : k < 1024) : rst r 24 (iN k) v = some (r_st r 24 k v) := rst_iN (j := 24) h
/-- the same, but for what is remembered of sets -/
def Mq (r q : Rho) : Prop := q.1 = r.1 ∧ ∀ j, j ≠ 24 → q.2 j = r.2 j
def MI (m : Nat → Int32) (q : Rho) : Prop := ∀ k, k < 1024 → q.2 24 k = -1 ∨ q.2 24 k = iN (mpF m 12 (iN k))
theorem pairsOf_md (I : Inv (r.2 1)) (hN : 100 < N) : ∀ (d : Nat) (S : Int32) (q : Rho), bdB (cn (r.2 1) 5) S → ctB (ib S) 32 < d → d ≤ 12 → Mq r q → MI (r.2 1) q → ∃ q2, f_R_pairsOf N d S q = some (iN (mpF (r.2 1) 12 S), q2) ∧ Mq r q2 ∧ MI (r.2 1) q2 := by
  have h5 := I.b5
  intro d
  induction d with
  | zero => intro S q _ h; exact absurd h (Nat.not_lt_zero _)
  | succ d ih =>
    intro S q hb hc hd hq hm
    rw [f_R_pairsOf]
    by_cases h : S = 0
    · rw [if_pos h, h, mpF_0]
      exact ⟨q, rfl, hq, hm⟩
    · obtain ⟨l1, l2, l3⟩ := loB_p h
      have lp5 := bd_lt hb l2
      have hcr := ct_rm l1 l2
      obtain ⟨k, hk, ek⟩ := bd_num h5 hb
      have hl := mpF_le (r.2 1) 12 S
      rw [if_neg h, show rld q 24 S = some (q.2 24 k) by rw [ek]; exact y24 hk, ob]
      rcases hm k hk with h1 | h1
      · rw [if_pos h1]
        have find : ∀ (j i fuel : Nat), i + j = loB S → j < fuel → f_R_pairsOf_25 N (f_R_pairsOf N d) S fuel (iN i) q = (f_R_pairsOf N d (rmB S (loB S)) q).bind fun z4 => f_R_pairsOf_59 N (f_R_pairsOf N d) S N (iN (loB S)) (rmB S (loB S)) z4.1 (iN (loB S + 1)) z4.2 := by
          intro j
          induction j with
          | zero =>
            intro i fuel hi hf
            obtain ⟨fu, rfl⟩ : ∃ fu, fuel = fu + 1 := ⟨fuel - 1, by omega⟩
            obtain rfl : i = loB S := by omega
            rw [f_R_pairsOf_25, f_R_isOf_eq l1, ob, l2, if_neg (show ¬ b01 true = 0 by decide), iN_s]
            rfl
          | succ j ih2 =>
            intro i fuel hi hf
            obtain ⟨fu, rfl⟩ : ∃ fu, fuel = fu + 1 := ⟨fuel - 1, by omega⟩
            rw [f_R_pairsOf_25, f_R_isOf_eq (show i < 32 by omega), ob, l3 i (by omega), if_pos (show b01 false = 0 from rfl), iN_s]
            exact ih2 (i + 1) fu (by omega) (by omega)
        rw [show f_R_pairsOf_25 N (f_R_pairsOf N d) S N 0 q = _ from find (loB S) 0 N (Nat.zero_add _) (by omega)]
        obtain ⟨q1, m1, hq1, hm1⟩ := ih (rmB S (loB S)) q (bd_rm hb _) (by omega) (by omega) hq hm
        rw [m1, ob]
        dsimp only
        have idle : lp (mxS (r.2 1) (mpF (r.2 1) 12) (loB S) (rmB S (loB S))) (loB S + 1) 0 (mpF (r.2 1) 12 (rmB S (loB S))) = mpF (r.2 1) 12 (rmB S (loB S)) := lp_idle _ _ _ fun i _ hi => by
          unfold mxS
          rw [if_neg]
          intro w
          rw [ib_rm S l1 (by omega)] at w
          by_cases hil : i = loB S
          · rw [hil] at w; simp at w
          · rw [l3 i (by omega)] at w; simp at w
        have bnd : ∀ k, lp (mxS (r.2 1) (mpF (r.2 1) 12) (loB S) (rmB S (loB S))) k 0 (mpF (r.2 1) 12 (rmB S (loB S))) ≤ 13 := fun k => lp_pres (P := fun z => z ≤ 13) (fun i z hz => by
          unfold mxS
          have := mpF_le (r.2 1) 12 (rmB (rmB S (loB S)) i)
          by_cases h2 : ib (rmB S (loB S)) i = true ∧ tdB (r.2 1) (loB S) i = true
          · rw [if_pos h2]
            by_cases h3 : z < 1 + mpF (r.2 1) 12 (rmB (rmB S (loB S)) i)
            · rw [if_pos h3]; omega
            · rw [if_neg h3]; exact hz
          · rw [if_neg h2]; exact hz) _ _ _ (Nat.le_succ_of_le (mpF_le _ _ _))
        have fin : mpF (r.2 1) 12 S = lp (mxS (r.2 1) (mpF (r.2 1) 12) (loB S) (rmB S (loB S))) (cn (r.2 1) 5) 0 (mpF (r.2 1) 12 (rmB S (loB S))) := by
          rw [mpF_st (r.2 1) 12 13 S (by omega) (by omega), mpF_s, if_neg h]
        refine lp_inv (F := fun fuel k (z : Int32 × Rho) => f_R_pairsOf_59 N (f_R_pairsOf N d) S fuel (iN (loB S)) (rmB S (loB S)) z.1 (iN k) z.2) (n := cn (r.2 1) 5) (P := fun k z => z.1 = iN (lp (mxS (r.2 1) (mpF (r.2 1) 12) (loB S) (rmB S (loB S))) k 0 (mpF (r.2 1) 12 (rmB S (loB S)))) ∧ Mq r z.2 ∧ MI (r.2 1) z.2) (Q := fun t => ∃ q2, t = some (iN (mpF (r.2 1) 12 S), q2) ∧ Mq r q2 ∧ MI (r.2 1) q2) (fun fuel z hz => ?_) (fun fuel i z hi hz => ?_) (cn (r.2 1) 5 - (loB S + 1)) (loB S + 1) (iN (mpF (r.2 1) 12 (rmB S (loB S))), q1) N (by omega) (by omega) ⟨by rw [idle], hq1, hm1⟩
        · obtain ⟨z1, z2, z3⟩ := hz
          refine ⟨r_st z.2 24 k (iN (mpF (r.2 1) 12 S)), ?_, ⟨z2.1, fun j hj => (rst_ne hj).trans (z2.2 j hj)⟩, fun k2 hk2 => ?_⟩
          · show f_R_pairsOf_59 N (f_R_pairsOf N d) S (fuel + 1) (iN (loB S)) (rmB S (loB S)) z.1 (iN (cn (r.2 1) 5)) z.2 = _
            rw [f_R_pairsOf_59, rlm5, ob, z2.2 1 (by decide), I.n5, if_pos (i_le_rfl _), z1, ← fin]
            rw [show rst z.2 24 S (iN (mpF (r.2 1) 12 S)) = some (r_st z.2 24 k (iN (mpF (r.2 1) 12 S))) by
              generalize iN (mpF (r.2 1) 12 S) = vv
              rw [ek]
              exact yw24 hk, ob]
          · rw [rst_own]
            by_cases h2 : k2 = k
            · rw [if_pos h2, h2, ← ek]; exact Or.inr rfl
            · rw [if_neg h2]; exact z3 k2 hk2
        · obtain ⟨z1, z2, z3⟩ := hz
          have em : z.2.2 1 = r.2 1 := z2.2 1 (by decide)
          have bi := bnd i
          have e0 : f_R_pairsOf_59 N (f_R_pairsOf N d) S (fuel + 1) (iN (loB S)) (rmB S (loB S)) z.1 (iN i) z.2 = if b01 (ib (rmB S (loB S)) i) = 0 then f_R_pairsOf_59 N (f_R_pairsOf N d) S fuel (iN (loB S)) (rmB S (loB S)) z.1 (iN (i + 1)) z.2 else (if b01 (tdB (r.2 1) (loB S) i) = 0 then f_R_pairsOf_59 N (f_R_pairsOf N d) S fuel (iN (loB S)) (rmB S (loB S)) z.1 (iN (i + 1)) z.2 else ((f_R_pairsOf N d (rmB (rmB S (loB S)) i) z.2).bind fun z9 => (f_R_greater z.1 (1 + z9.1)).bind fun z10 => f_R_pairsOf_59 N (f_R_pairsOf N d) S fuel (iN (loB S)) (rmB S (loB S)) z10 (iN (i + 1)) z9.2)) := by
            rw [f_R_pairsOf_59, rlm5, ob, em, I.n5, if_neg (iN_nle hi (by omega)), f_R_isOf_eq (show i < 32 by omega), ob, f_R_areTied_eq (r := z.2) (by rw [em]; exact I) (by omega), ob, em, iN_s]
            rfl
          rw [show lp (mxS (r.2 1) (mpF (r.2 1) 12) (loB S) (rmB S (loB S))) (i + 1) 0 (mpF (r.2 1) 12 (rmB S (loB S))) = mxS (r.2 1) (mpF (r.2 1) 12) (loB S) (rmB S (loB S)) i (lp (mxS (r.2 1) (mpF (r.2 1) 12) (loB S) (rmB S (loB S))) i 0 (mpF (r.2 1) 12 (rmB S (loB S)))) by rw [lp_snoc, Nat.zero_add]]
          generalize lp (mxS (r.2 1) (mpF (r.2 1) 12) (loB S) (rmB S (loB S))) i 0 (mpF (r.2 1) 12 (rmB S (loB S))) = zz at *
          unfold mxS
          by_cases h2 : ib (rmB S (loB S)) i = true ∧ tdB (r.2 1) (loB S) i = true
          · have hcr2 := ct_rm (ib_lt h2.1) h2.1
            have hle := mpF_le (r.2 1) 12 (rmB (rmB S (loB S)) i)
            obtain ⟨q2, m2, hq2, hm2⟩ := ih (rmB (rmB S (loB S)) i) z.2 (bd_rm (bd_rm hb _) i) (by omega) (by omega) z2 z3
            rw [if_pos h2]
            refine ⟨(iN (if zz < 1 + mpF (r.2 1) 12 (rmB (rmB S (loB S)) i) then 1 + mpF (r.2 1) 12 (rmB (rmB S (loB S)) i) else zz), q2), ?_, rfl, hq2, hm2⟩
            refine e0.trans ?_
            rw [h2.1, h2.2, if_neg (show ¬ b01 true = 0 by decide), if_neg (show ¬ b01 true = 0 by decide), m2, ob]
            dsimp only
            rw [greater_eq, ob, z1, show (1 : Int32) + iN (mpF (r.2 1) 12 (rmB (rmB S (loB S)) i)) = iN (1 + mpF (r.2 1) 12 (rmB (rmB S (loB S)) i)) from iN_add 1 _]
            by_cases h3 : zz < 1 + mpF (r.2 1) 12 (rmB (rmB S (loB S)) i)
            · rw [if_pos (iN_ylt h3 (by omega)), if_pos h3]
            · rw [if_neg (iN_nlt (by omega) (by omega)), if_neg h3]
          · rw [if_neg h2]
            refine ⟨z, ?_, z1, z2, z3⟩
            refine e0.trans ?_
            by_cases h3 : ib (rmB S (loB S)) i = true
            · have h4 : tdB (r.2 1) (loB S) i = false := Bool.eq_false_iff.mpr fun w => h2 ⟨h3, w⟩
              rw [h3, h4, if_neg (show ¬ b01 true = 0 by decide), if_pos (show b01 false = 0 from rfl)]
            · rw [Bool.eq_false_iff.mpr h3, if_pos (show b01 false = 0 from rfl)]
      · rw [if_neg (by rw [h1]; exact iN_m1 (by rw [← ek]; omega)), ob, h1, ← ek]
        exact ⟨q, rfl, hq, hm⟩
end Pb
