section Tb
variable {N x o t B n p k w i s c d many : Nat} {ps ys zs : Nat → Nat} {M K L : Mem} {r q : Rho} {a b g u v S T A taken : Int32} {m m2 m0 : Nat → Int32} {ord gs : Nat → Nat} {z : Nat × (Nat → Nat)}
/-- what the owns of two people cost, as a number -/
def coN (m : Nat → Int32) (a b : Nat) : Nat := if a < cn m 5 ∧ b < cn m 5 then (coM m a b).toNatClampNeg else 0
theorem coN_le (I : Inv m) (a b : Nat) : coN m a b ≤ 400 := by
  unfold coN
  by_cases h : a < cn m 5 ∧ b < cn m 5
  · rw [if_pos h]
    obtain ⟨u, hu, e⟩ := costM_nb I (I.p h.1).1.2.1 (I.p h.2).1.2.1
    unfold coM
    rw [e, iN_cl (by omega)]
    exact hu
  · rw [if_neg h]; exact Nat.zero_le _
theorem coM_N (I : Inv m) {a b : Nat} (ha : a < cn m 5) (hb : b < cn m 5) : coM m a b = iN (coN m a b) := by
  unfold coN
  rw [if_pos ⟨ha, hb⟩]
  obtain ⟨u, hu, e⟩ := costM_nb I (I.p ha).1.2.1 (I.p hb).1.2.1
  unfold coM
  rw [e, iN_cl (by omega)]
def clN (m : Nat → Int32) (many : Nat) (ord : Nat → Nat) : Nat := if many ≤ 2 then 0 else coN m (ord (many - 1)) (ord 0)
theorem clN_le (I : Inv m) (many : Nat) (ord : Nat → Nat) : clN m many ord ≤ 400 := by
  unfold clN
  by_cases h : many ≤ 2
  · rw [if_pos h]; exact Nat.zero_le _
  · rw [if_neg h]; exact coN_le I _ _
/-- all orders of those who are left, the first ones first -/
def tbF (m : Nat → Int32) (many : Nat) : Nat → Int32 → Nat → Nat → (Nat → Nat) → Nat × (Nat → Nat) → Nat × (Nat → Nat)
  | 0, _, _, _, _, z => z
  | d + 1, S, k, c, ord, z => if S = 0 then (if c + clN m many ord < z.1 then (c + clN m many ord, ord) else z) else lp (fun p z => if ib S p = true then tbF m many d (rmB S p) (k + 1) (c + coN m (ord (k - 1)) p) (up1 ord k p) z else z) (cn m 5) 0 z
def tbS (m : Nat → Int32) (many d : Nat) (S : Int32) (k c : Nat) (ord : Nat → Nat) (p : Nat) (z : Nat × (Nat → Nat)) : Nat × (Nat → Nat) := if ib S p = true then tbF m many d (rmB S p) (k + 1) (c + coN m (ord (k - 1)) p) (up1 ord k p) z else z
theorem tbF_s (m : Nat → Int32) (many d : Nat) (S : Int32) (k c : Nat) (ord : Nat → Nat) (z : Nat × (Nat → Nat)) : tbF m many (d + 1) S k c ord z = if S = 0 then (if c + clN m many ord < z.1 then (c + clN m many ord, ord) else z) else lp (tbS m many d S k c ord) (cn m 5) 0 z := rfl
theorem tbF_cut (m : Nat → Int32) (many : Nat) : ∀ (d : Nat) (S : Int32) (k c : Nat) (ord : Nat → Nat) (z : Nat × (Nat → Nat)), z.1 ≤ c → tbF m many d S k c ord z = z := by
  intro d
  induction d with
  | zero => intros; rfl
  | succ d ih =>
    intro S k c ord z h
    rw [tbF_s]
    by_cases h0 : S = 0
    · rw [if_pos h0, if_neg (by omega)]
    · rw [if_neg h0]
      refine lp_idle _ _ _ fun i _ _ => ?_
      unfold tbS
      by_cases h1 : ib S i = true
      · rw [if_pos h1]
        exact ih _ _ _ _ _ (by omega)
      · rw [if_neg h1]
theorem tbF_mono (m : Nat → Int32) (many : Nat) : ∀ (d : Nat) (S : Int32) (k c : Nat) (ord : Nat → Nat) (z : Nat × (Nat → Nat)), (tbF m many d S k c ord z).1 ≤ z.1 := by
  intro d
  induction d with
  | zero => intros; exact Nat.le_refl _
  | succ d ih =>
    intro S k c ord z
    rw [tbF_s]
    by_cases h0 : S = 0
    · rw [if_pos h0]
      by_cases h1 : c + clN m many ord < z.1
      · rw [if_pos h1]; exact Nat.le_of_lt h1
      · rw [if_neg h1]; exact Nat.le_refl _
    · rw [if_neg h0]
      refine lp_pres (P := fun (y : Nat × (Nat → Nat)) => y.1 ≤ z.1) (fun i y hy => ?_) _ _ _ (Nat.le_refl _)
      unfold tbS
      by_cases h1 : ib S i = true
      · rw [if_pos h1]
        exact Nat.le_trans (ih _ _ _ _ _) hy
      · rw [if_neg h1]; exact hy
theorem tbS_mono (m : Nat → Int32) (many d : Nat) (S : Int32) (k c : Nat) (ord : Nat → Nat) (i : Nat) (y : Nat × (Nat → Nat)) : (tbS m many d S k c ord i y).1 ≤ y.1 := by
  unfold tbS
  by_cases h1 : ib S i = true
  · rw [if_pos h1]; exact tbF_mono _ _ _ _ _ _ _ _
  · rw [if_neg h1]; exact Nat.le_refl _
theorem tbF_hit (I : Inv m) (many : Nat) : ∀ (d : Nat) (S : Int32) (k c : Nat) (ord : Nat → Nat) (z : Nat × (Nat → Nat)), ctB (ib S) 32 < d → bdB (cn m 5) S → c + 400 * ctB (ib S) 32 + 400 < 1000000 → (tbF m many d S k c ord z).1 < 1000000 := by
  intro d
  induction d with
  | zero => intro S k c ord z h; exact absurd h (Nat.not_lt_zero _)
  | succ d ih =>
    intro S k c ord z h1 h2 h3
    rw [tbF_s]
    have hcl := clN_le I many ord
    by_cases h0 : S = 0
    · rw [if_pos h0]
      by_cases h4 : c + clN m many ord < z.1
      · rw [if_pos h4]
        show c + clN m many ord < 1000000
        omega
      · rw [if_neg h4]; omega
    · rw [if_neg h0]
      obtain ⟨l1, l2, l3⟩ := loB_p h0
      have lp5 := bd_lt h2 l2
      have hcr := ct_rm l1 l2
      have hco := coN_le I (ord (k - 1)) (loB S)
      have e : lp (tbS m many d S k c ord) (cn m 5) 0 z = lp (tbS m many d S k c ord) (cn m 5 - (loB S + 1)) (loB S + 1) (tbS m many d S k c ord (loB S) (lp (tbS m many d S k c ord) (loB S) 0 z)) := by
        have h5 := lp_split (tbS m many d S k c ord) (cn m 5 - (loB S + 1)) (loB S + 1) 0 z
        rw [show loB S + 1 + (cn m 5 - (loB S + 1)) = cn m 5 by omega, lp_snoc, Nat.zero_add, Nat.zero_add] at h5
        exact h5
      rw [e]
      refine lp_pres (P := fun (y : Nat × (Nat → Nat)) => y.1 < 1000000) (fun i y hy => Nat.lt_of_le_of_lt (tbS_mono _ _ _ _ _ _ _ _ _) hy) _ _ _ ?_
      unfold tbS
      rw [if_pos l2]
      exact ih _ _ _ _ _ (by omega) (bd_rm h2 _) (by omega)
theorem tbF_st (m : Nat → Int32) (many : Nat) : ∀ (d e : Nat) (S : Int32) (k c : Nat) (ord : Nat → Nat) (z : Nat × (Nat → Nat)), ctB (ib S) 32 < d → ctB (ib S) 32 < e → tbF m many d S k c ord z = tbF m many e S k c ord z := by
  intro d
  induction d with
  | zero => intro e S k c ord z h; exact absurd h (Nat.not_lt_zero _)
  | succ d ih =>
    intro e S k c ord z h1 h2
    cases e with
    | zero => exact absurd h2 (Nat.not_lt_zero _)
    | succ e =>
      rw [tbF_s, tbF_s]
      by_cases h0 : S = 0
      · rw [if_pos h0, if_pos h0]
      · rw [if_neg h0, if_neg h0]
        refine lp_congr (n := cn m 5) (fun i y _ => ?_) _ _ _ (by omega)
        unfold tbS
        by_cases h3 : ib S i = true
        · have hcr := ct_rm (ib_lt h3) h3
          rw [if_pos h3, if_pos h3]
          exact ih e _ _ _ _ _ (by omega) (by omega)
        · rw [if_neg h3, if_neg h3]
/-! the model's side -/
theorem y22 (h : k < 8) : rld r 22 (iN k) = some (r.2 22 k) := rld_iN (j := 22) h
theorem y23 (h : k < 8) : rld r 23 (iN k) = some (r.2 23 k) := rld_iN (j := 23) h
theorem yw22 {v : Int32} (h : k < 8) : rst r 22 (iN k) v = some (r_st r 22 k v) := rst_iN (j := 22) h
theorem yw23 {v : Int32} (h : k < 8) : rst r 23 (iN k) v = some (r_st r 23 k v) := rst_iN (j := 23) h
def Tq (r q : Rho) : Prop := (∀ j, j ≠ 26 → q.1 j = r.1 j) ∧ ∀ j, j ≠ 22 → j ≠ 23 → q.2 j = r.2 j
theorem Tq.s22 (h : Tq r q) (k : Nat) (v : Int32) : Tq r (r_st q 22 k v) := ⟨h.1, fun j h1 h2 => (rst_ne h1).trans (h.2 j h1 h2)⟩
theorem Tq.s23 (h : Tq r q) (k : Nat) (v : Int32) : Tq r (r_st q 23 k v) := ⟨h.1, fun j h1 h2 => (rst_ne h2).trans (h.2 j h1 h2)⟩
/-- the least so far, and its order -/
def zM (many : Nat) (q : Rho) (z : Nat × (Nat → Nat)) : Prop := q.1 26 = iN z.1 ∧ z.1 ≤ 1000000 ∧ (z.1 < 1000000 → ∀ i, i < many → q.2 23 i = iN (z.2 i))
theorem sits_md (I : Inv (r.2 1)) (hN : 100 < N) (hm : many ≤ 8) : ∀ (d : Nat) (S : Int32) (k c : Nat) (ord : Nat → Nat) (z : Nat × (Nat → Nat)) (q : Rho), 1 ≤ k → ctB (ib S) 32 < d → ctB (ib S) 32 + k = many → bdB (cn (r.2 1) 5) S → c + 400 * ctB (ib S) 32 + 400 < 1000000 → (∀ i, i < k → ord i < cn (r.2 1) 5 ∧ q.2 22 i = iN (ord i)) → Tq r q → zM many q z →
    ∃ q2, f_R_sits N d S (iN k) (iN many) (iN c) q = some q2 ∧ Tq r q2 ∧ zM many q2 (tbF (r.2 1) many d S k c ord z) ∧ ∀ i, i < k → q2.2 22 i = iN (ord i) := by
  have h5 := I.b5
  intro d
  induction d with
  | zero => intro S k c ord z q _ h; exact absurd h (Nat.not_lt_zero _)
  | succ d ih =>
    intro S k c ord z q hk hd hmk hb hc ho hq hz
    have em : q.2 1 = r.2 1 := hq.2 1 (by decide) (by decide)
    rw [f_R_sits, hz.1]
    have hz1 := hz.2.1
    by_cases hcz : c ≤ z.1
    · rw [if_pos (iN_yle hcz (by omega)), tbF_s]
      by_cases h0 : S = 0
      · rw [if_pos h0, if_pos h0]
        have hkm : k = many := by
          rw [h0] at hmk
          have : ctB (ib 0) 32 = 0 := by decide
          omega
        subst hkm
        have hcl := clN_le I k ord
        have e53 : ∀ y, y = iN (clN (r.2 1) k ord) → ∃ q2, f_R_sits_53 N (f_R_sits N d) S (iN k) (iN k) (iN c) (iN c) y q = some q2 ∧ Tq r q2 ∧ zM k q2 (if c + clN (r.2 1) k ord < z.1 then (c + clN (r.2 1) k ord, ord) else z) ∧ ∀ i, i < k → q2.2 22 i = iN (ord i) := fun y hy => by
          unfold f_R_sits_53
          rw [hy, iN_add, hz.1]
          by_cases h1 : c + clN (r.2 1) k ord < z.1
          · rw [if_pos (iN_ylt h1 (by omega)), if_pos h1]
            refine lp_inv (F := fun fuel j w => f_R_sits_75 N (f_R_sits N d) S (iN k) (iN k) (iN c) fuel (iN j) w) (n := k) (P := fun j w => Tq r w ∧ w.1 26 = iN (c + clN (r.2 1) k ord) ∧ (∀ i, i < j → w.2 23 i = iN (ord i)) ∧ ∀ i, i < k → w.2 22 i = iN (ord i)) (Q := fun t => ∃ q2, t = some q2 ∧ Tq r q2 ∧ zM k q2 (c + clN (r.2 1) k ord, ord) ∧ ∀ i, i < k → q2.2 22 i = iN (ord i)) (fun fuel w hw => ?_) (fun fuel j w hj hw => ?_) k 0 _ N (Nat.zero_add _) (by omega) ⟨⟨fun j hj => (set_f hj).trans (hq.1 j hj), hq.2⟩, set_s _ _ _, fun i hi => absurd hi (Nat.not_lt_zero i), fun i hi => (ho i hi).2⟩
            · exact ⟨w, by rw [f_R_sits_75, if_pos (i_le_rfl _)], hw.1, ⟨hw.2.1, by omega, fun _ => hw.2.2.1⟩, hw.2.2.2⟩
            · refine ⟨r_st w 23 j (iN (ord j)), ?_, hw.1.s23 _ _, hw.2.1, fun i hi => ?_, fun i hi => ?_⟩
              · rw [f_R_sits_75, if_neg (iN_nle hj (by omega)), y22 (by omega), ob, hw.2.2.2 j hj, yw23 (by omega), ob, iN_s]
              · rw [rst_own]
                by_cases hij : i = j
                · rw [if_pos hij, hij]
                · rw [if_neg hij]; exact hw.2.2.1 i (by omega)
              · rw [rst_ne (by decide)]; exact hw.2.2.2 i hi
          · rw [if_neg (iN_nlt (by omega) (by omega)), if_neg h1]
            exact ⟨q, rfl, hq, hz, fun i hi => (ho i hi).2⟩
        by_cases hm2 : k ≤ 2
        · rw [if_pos (show iN k ≤ (2 : Int32) from iN_yle (n := k) (k := 2) hm2 (by decide))]
          exact e53 0 (by unfold clN; rw [if_pos hm2]; rfl)
        · rw [if_neg (show ¬ iN k ≤ (2 : Int32) from iN_nle (n := k) (k := 2) (by omega) (by omega)), show iN k - 1 = iN (k - 1) from iN_sub (b := 1) (by omega), y22 (by omega), ob, (ho (k - 1) (by omega)).2, of1 (by have := (ho (k - 1) (by omega)).1; omega), ob, show rld q 22 0 = some (q.2 22 0) from y22 (k := 0) (by decide), ob, (ho 0 (by omega)).2, of1 (by have := (ho 0 (by omega)).1; omega), ob, f_R_costOf_eq, ob, em]
          refine e53 _ ?_
          unfold clN
          rw [if_neg hm2]
          exact coM_N I (ho (k - 1) (by omega)).1 (ho 0 (by omega)).1
      · rw [if_neg h0, if_neg h0]
        have hcp : 0 < ctB (ib S) 32 := Nat.pos_of_ne_zero fun h => h0 (ct_0 h)
        refine lp_inv (F := fun fuel p (w : Rho) => f_R_sits_105 N (f_R_sits N d) S (iN k) (iN many) (iN c) fuel (iN p) w) (n := cn (r.2 1) 5) (P := fun p w => Tq r w ∧ zM many w (lp (tbS (r.2 1) many d S k c ord) p 0 z) ∧ ∀ i, i < k → w.2 22 i = iN (ord i)) (Q := fun t => ∃ q2, t = some q2 ∧ Tq r q2 ∧ zM many q2 (lp (tbS (r.2 1) many d S k c ord) (cn (r.2 1) 5) 0 z) ∧ ∀ i, i < k → q2.2 22 i = iN (ord i)) (fun fuel w hw => ?_) (fun fuel p w hp hw => ?_) (cn (r.2 1) 5) 0 q N (Nat.zero_add _) (by omega) ⟨hq, hz, fun i hi => (ho i hi).2⟩
        · refine ⟨w, ?_, hw.1, hw.2.1, hw.2.2⟩
          rw [f_R_sits_105, rlm5, ob, hw.1.2 1 (by decide) (by decide), I.n5, if_pos (i_le_rfl _)]
        · obtain ⟨w1, w2, w3⟩ := hw
          have ew : w.2 1 = r.2 1 := w1.2 1 (by decide) (by decide)
          rw [lp_snoc, Nat.zero_add]
          generalize lp (tbS (r.2 1) many d S k c ord) p 0 z = y at *
          have e0 : ∀ v, ib S p = v → f_R_sits_105 N (f_R_sits N d) S (iN k) (iN many) (iN c) (fuel + 1) (iN p) w = if b01 v = 0 then f_R_sits_105 N (f_R_sits N d) S (iN k) (iN many) (iN c) fuel (iN (p + 1)) w else (f_R_sits N d (rmB S p) (iN (k + 1)) (iN many) (iN (c + coN (r.2 1) (ord (k - 1)) p)) (r_st w 22 k (iN p))).bind fun z13 => f_R_sits_105 N (f_R_sits N d) S (iN k) (iN many) (iN c) fuel (iN (p + 1)) z13 := fun v hv => by
            rw [f_R_sits_105, rlm5, ob, ew, I.n5, if_neg (iN_nle hp (by omega)), f_R_isOf_eq (show p < 32 by omega), ob, hv, iN_s]
            by_cases hv0 : b01 v = 0
            · rw [if_pos hv0, if_pos hv0]
            · rw [if_neg hv0, if_neg hv0, yw22 (by omega), ob, if_neg (show ¬ iN k ≤ (0 : Int32) from iN_nle (k := 0) (n := k) (by omega) (by omega)), show iN k - 1 = iN (k - 1) from iN_sub (b := 1) (by omega), y22 (by omega), ob, rst_own, if_neg (show ¬ k - 1 = k by omega), w3 (k - 1) (by omega), of1 (by have := (ho (k - 1) (by omega)).1; omega), ob, of1 (by omega), ob, f_R_costOf_eq, ob, rst_ne (show (1 : Nat) ≠ 22 by decide), ew]
              unfold f_R_sits_183
              rw [show costM (r.2 1) (pC (r.2 1) (ord (k - 1)) 1) (pC (r.2 1) p 1) = iN (coN (r.2 1) (ord (k - 1)) p) from coM_N I (ho (k - 1) (by omega)).1 hp, iN_add, iN_s]
              rw [show (S &&& (((1 : Int32) <<< (iN p &&& 31)) ^^^ (-1))) = rmB S p from rfl]
              refine congrArg _ (funext fun z13 => ?_)
              rw [if_neg (show ¬ iN k = 0 from iN_ne (b := 0) (by omega) (by omega) (by decide)), iN_s]
          unfold tbS
          by_cases hsp : ib S p = true
          · rw [if_pos hsp]
            have hcr := ct_rm (ib_lt hsp) hsp
            have hco := coN_le I (ord (k - 1)) p
            obtain ⟨q2, m2, t2, zz2, o2⟩ := ih (rmB S p) (k + 1) (c + coN (r.2 1) (ord (k - 1)) p) (up1 ord k p) y (r_st w 22 k (iN p)) (by omega) (by omega) (by omega) (bd_rm hb p) (by omega) (fun i hi => by
              rw [rst_own, up1_at]
              by_cases hik : i = k
              · rw [if_pos hik, if_pos hik]; exact ⟨hp, rfl⟩
              · rw [if_neg hik, if_neg hik]; exact ⟨(ho i (by omega)).1, w3 i (by omega)⟩) (w1.s22 _ _) ⟨w2.1, w2.2.1, fun h i hi => by rw [rst_ne (by decide)]; exact w2.2.2 h i hi⟩
            refine ⟨q2, ?_, t2, zz2, fun i hi => ?_⟩
            · rw [e0 true hsp, if_neg (show ¬ b01 true = 0 by decide), m2, ob]
            · have := o2 i (by omega)
              rw [up1_at, if_neg (by omega)] at this
              exact this
          · rw [if_neg hsp]
            exact ⟨w, by rw [e0 false (Bool.eq_false_iff.mpr hsp), if_pos (show b01 false = 0 from rfl)], w1, w2, w3⟩
    · rw [if_neg (iN_nle (by omega) (by omega)), tbF_cut _ _ _ _ _ _ _ _ (by omega)]
      exact ⟨q, rfl, hq, hz, fun i hi => (ho i hi).2⟩
end Tb
