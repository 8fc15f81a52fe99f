section Sd
variable {N x o t B n p k w : Nat} {ps ys zs : Nat → Nat} {M K L : Mem} {r q : Rho} {a b g : Int32} {m m2 m0 : Nat → Int32}
theorem ib_iN {k i : Nat} (hi : i < 32) : ib (iN k) i = k.testBit i := by
  show (BitVec.ofNat 32 k).getLsbD i = _
  rw [BitVec.getLsbD_ofNat, decide_eq_true hi, Bool.true_and]
theorem oth_all : ∀ n : Fin 11, ∀ p : Fin 10, p.val < n.val → (iN (2 ^ n.val - 1) &&& (((1 : Int32) <<< (iN p.val &&& 31)) ^^^ (-1))) = iN (2 ^ n.val - 1 - 2 ^ p.val) ∧ szN (2 ^ n.val - 1 - 2 ^ p.val) + 1 = n.val := by decide +kernel
theorem ib_oth (hn : n ≤ 10) (hp : p < n) {i : Nat} (hi : i < 32) : ib (iN (2 ^ n - 1 - 2 ^ p)) i = (decide (i < n) && !decide (i = p)) := by
  have h1 := (oth_all ⟨n, by omega⟩ ⟨p, by omega⟩ hp).1
  have h2 := ev_all ⟨n, by omega⟩ ⟨i, hi⟩
  dsimp only at h1 h2
  rw [← h1, ib_and, h2, ib_not _ hi, ib_shl (by omega)]
theorem sub_iff (hn : n ≤ 10) (hp : p < n) (hk : k < 2 ^ n) : (iN k &&& (iN (2 ^ n - 1 - 2 ^ p) ^^^ (-1))) = 0 ↔ ib (iN k) p = false := by
  constructor
  · intro h
    have h2 : ib (iN k &&& (iN (2 ^ n - 1 - 2 ^ p) ^^^ (-1))) p = false := by rw [h, ib_0]
    rw [ib_and, ib_not _ (by omega), ib_oth hn hp (by omega), decide_eq_true hp, decide_eq_true (rfl : p = p)] at h2
    simpa using h2
  · intro h
    refine ib_ext fun i hi => ?_
    rw [ib_and, ib_not _ hi, ib_oth hn hp hi, ib_0]
    by_cases h1 : i = p
    · rw [h1, h, Bool.false_and]
    · by_cases h2 : i < n
      · rw [decide_eq_true h2, decide_eq_false h1]; simp
      · rw [ib_iN hi, Nat.testBit_lt_two_pow (Nat.lt_of_lt_of_le hk (Nat.pow_le_pow_right (by decide) (by omega))), Bool.false_and]
theorem le_oth (hp : p < n) (hk : k < 2 ^ n) (hp32 : p < 32) (h : ib (iN k) p = false) : k ≤ 2 ^ n - 1 - 2 ^ p := by
  rw [ib_iN hp32] at h
  have h1 : (2 ^ n - (k + 1)).testBit p = true := by
    rw [Nat.testBit_two_pow_sub_succ hk, decide_eq_true hp, h]
    rfl
  have h2 := Nat.ge_two_pow_of_testBit h1
  omega
/-- whether one gets it, if these shun hands and cheeks -/
def infB (m : Nat → Int32) (w p : Nat) (a : Int32) : Bool := ib (lp (fun _ z => cdR m a z) w 0 (cdS m)) p
def spB (m : Nat → Int32) (w p : Nat) (a : Int32) : Bool := !(ib a p) && !(infB m w p a)
theorem cdP_keep (I : Inv m) (hp : p < cn m 5) (hk : k < cn m 6) (z : Int32) : ib (cdP m (iN (2 ^ cn m 5 - 1 - 2 ^ p)) k z) p = ib z p := by
  have h5 := I.b5
  obtain ⟨a, b, ha, hb, hab, e1, e2⟩ := I.t hk
  have ec : ∀ i, i < 32 → ib (cdT m k) i = (decide (i = a) || decide (i = b)) := fun i hi => by
    unfold cdT
    rw [e1, e2, ib_or, ib_shl (by omega), ib_shl (by omega)]
  unfold cdP
  by_cases h1 : cdT m k &&& iN (2 ^ cn m 5 - 1 - 2 ^ p) = 0
  · rw [if_pos h1]
    exfalso
    have key : ∀ i, i < cn m 5 → i = a ∨ i = b → i = p := fun i hi hq => by
      refine Classical.byContradiction fun hip => ?_
      have h2 : ib (cdT m k &&& iN (2 ^ cn m 5 - 1 - 2 ^ p)) i = false := by rw [h1, ib_0]
      rw [ib_and, ec i (by omega), ib_oth h5 hp (by omega), decide_eq_true hi, decide_eq_false hip] at h2
      rcases hq with hq | hq
      · rw [decide_eq_true hq] at h2; simp at h2
      · rw [decide_eq_true hq] at h2; simp at h2
    exact hab ((key a ha (Or.inl rfl)).trans (key b hb (Or.inr rfl)).symm)
  · rw [if_neg h1]
theorem inf_oth (I : Inv m) (hp : p < cn m 5) (h0 : pC m p 4 = 0) : spB m w p (iN (2 ^ cn m 5 - 1 - 2 ^ p)) = true := by
  have h5 := I.b5
  have h1 : ∀ (j k : Nat) (z : Int32), k + j = cn m 6 → ib (lp (cdP m (iN (2 ^ cn m 5 - 1 - 2 ^ p))) j k z) p = ib z p := by
    intro j
    induction j with
    | zero => intros; rfl
    | succ j ih =>
      intro k z hk
      show ib (lp (cdP m (iN (2 ^ cn m 5 - 1 - 2 ^ p))) j (k + 1) (cdP m (iN (2 ^ cn m 5 - 1 - 2 ^ p)) k z)) p = _
      rw [ih (k + 1) _ (by omega), cdP_keep I hp (by omega)]
  have h2 : ∀ (j k : Nat) (z : Int32), ib (lp (fun _ z => cdR m (iN (2 ^ cn m 5 - 1 - 2 ^ p)) z) j k z) p = ib z p := by
    intro j
    induction j with
    | zero => intros; rfl
    | succ j ih =>
      intro k z
      show ib (lp (fun _ z => cdR m (iN (2 ^ cn m 5 - 1 - 2 ^ p)) z) j (k + 1) (cdR m (iN (2 ^ cn m 5 - 1 - 2 ^ p)) z)) p = _
      rw [ih]
      exact h1 _ 0 z (Nat.zero_add _)
  have h3 : ib (cdS m) p = false := by
    unfold cdS
    rw [ib_setB _ (by omega), h0]
    simp
  unfold spB infB
  rw [h2, h3, ib_oth h5 hp (by omega), decide_eq_true (rfl : p = p)]
  simp
theorem spared_cl (G : GS N x o ps ys M r) (hN : 20000 ≤ N) (hw : w ≤ 20) (hp : p < cn (r.2 1) 5) (h0 : pC (r.2 1) p 4 = 0) {R : Nat} (hR : selP (fun k => spB (r.2 1) w p (iN k)) (2 ^ cn (r.2 1) 5 - 1) R) :
    ∀ (j s fuel : Nat), s + j = cn (r.2 1) 5 → j < fuel → (∀ k, k < 2 ^ cn (r.2 1) 5 - 1 - 2 ^ p → spB (r.2 1) w p (iN k) = true → s ≤ szN k) →
      f_CT_spared_47 N x (iN p) (iN w) fuel (iN (2 ^ cn (r.2 1) 5 - 1 - 2 ^ p)) (iN s) M = some (.inl (iN R), M) := by
  have h5 := G.I.b5
  have hE := (pw_k h5).1
  obtain ⟨-, hO⟩ := oth_all ⟨cn (r.2 1) 5, by omega⟩ ⟨p, by omega⟩ hp
  dsimp only at hO
  have gb : ∀ k, k ≤ 2 ^ cn (r.2 1) 5 - 1 → spB (r.2 1) w p (iN k) = true → k ≤ 2 ^ cn (r.2 1) 5 - 1 - 2 ^ p := fun k hk hg => by
    unfold spB at hg
    rw [Bool.and_eq_true, Bool.not_eq_true', Bool.not_eq_true'] at hg
    have := (pw_k h5).2.1
    exact le_oth hp (by omega) (by omega) hg.1
  have lO := Nat.sub_le (2 ^ cn (r.2 1) 5 - 1) (2 ^ p)
  have pO : 2 ^ cn (r.2 1) 5 - 1 - 2 ^ p < 2 ^ cn (r.2 1) 5 - 1 := by
    have h1 : 0 < 2 ^ p := Nat.pow_pos (by decide)
    have h2 : 2 ^ 1 ≤ 2 ^ cn (r.2 1) 5 := Nat.pow_le_pow_right (by decide) (by omega)
    omega
  intro j
  induction j with
  | zero =>
    intro s fuel hs hf hno
    obtain ⟨fu, rfl⟩ : ∃ fu, fuel = fu + 1 := ⟨fuel - 1, by omega⟩
    rw [f_CT_spared_47, G.A.gN, ob, G.S.i0, ob, G.R.v5, G.I.n5, show s = cn (r.2 1) 5 by omega, if_pos (i_le_rfl _)]
    have : R = 2 ^ cn (r.2 1) 5 - 1 - 2 ^ p := by
      refine Classical.byContradiction fun hq => ?_
      have hle := gb R hR.1 hR.2.1
      have h1 := hno R (by omega) hR.2.1
      have h2 := sz_all ⟨cn (r.2 1) 5, by omega⟩ ⟨R, by omega⟩ (by dsimp only; omega)
      dsimp only at h2
      omega
    rw [this]
  | succ j ih =>
    intro s fuel hs hf hno
    obtain ⟨fu, rfl⟩ : ∃ fu, fuel = fu + 1 := ⟨fuel - 1, by omega⟩
    rw [f_CT_spared_47, G.A.gN, ob, G.S.i0, ob, G.R.v5, G.I.n5, if_neg (iN_nle (by omega) (by omega))]
    have key : ∀ (i k fuel : Nat), k + i = 2 ^ cn (r.2 1) 5 - 1 - 2 ^ p → i < fuel → (∀ k', k' < k → spB (r.2 1) w p (iN k') = true → s + 1 ≤ szN k') →
        f_CT_spared_62 N x (iN p) (iN w) (f_CT_spared_47 N x (iN p) (iN w) fu) fuel (iN (2 ^ cn (r.2 1) 5 - 1 - 2 ^ p)) (iN s) (iN k) M = some (.inl (iN R), M) := by
      intro i
      induction i with
      | zero =>
        intro k fuel hk hf2 hno2
        obtain ⟨fv, rfl⟩ : ∃ fv, fuel = fv + 1 := ⟨fuel - 1, by omega⟩
        rw [f_CT_spared_62, if_pos (iN_yle (by omega) (by omega)), iN_s]
        exact ih (s + 1) fu (by omega) (by omega) fun k' hk' hg' => hno2 k' (by omega) hg'
      | succ i ih2 =>
        intro k fuel hk hf2 hno2
        obtain ⟨fv, rfl⟩ : ∃ fv, fuel = fv + 1 := ⟨fuel - 1, by omega⟩
        have hsz : szN k ≤ 10 := by unfold szN; omega
        have nxt : (spB (r.2 1) w p (iN k) = true → s + 1 ≤ szN k) → f_CT_spared_62 N x (iN p) (iN w) (f_CT_spared_47 N x (iN p) (iN w) fu) fv (iN (2 ^ cn (r.2 1) 5 - 1 - 2 ^ p)) (iN s) (iN (k + 1)) M = some (.inl (iN R), M) := fun h =>
          ih2 (k + 1) fv (by omega) (by omega) fun k' hk' hg' => by
            by_cases hkk : k' = k
            · rw [hkk] at hg' ⊢; exact h hg'
            · exact hno2 k' (by omega) hg'
        have e91 : f_CT_spared_91 N x (iN p) (iN w) (f_CT_spared_47 N x (iN p) (iN w) fu) (f_CT_spared_62 N x (iN p) (iN w) (f_CT_spared_47 N x (iN p) (iN w) fu) fv) (iN (2 ^ cn (r.2 1) 5 - 1 - 2 ^ p)) (iN s) (iN k) M = f_CT_spared_62 N x (iN p) (iN w) (f_CT_spared_47 N x (iN p) (iN w) fu) fv (iN (2 ^ cn (r.2 1) 5 - 1 - 2 ^ p)) (iN s) (iN (k + 1)) M := by
          unfold f_CT_spared_91 f_CT_spared_92
          rw [if_pos rfl, iN_s]
        rw [f_CT_spared_62, if_neg (iN_nle (by omega) (by omega)), e91]
        by_cases hsub : ib (iN k) p = false
        · rw [if_pos ((sub_iff h5 hp (by omega)).mpr hsub), bitCount_eq (by omega), ob]
          by_cases hs2 : szN k = s
          · rw [if_pos (by rw [hs2])]
            unfold f_CT_spared_92
            rw [if_neg i1n, G.A.gN, ob, G.S.c0, ob, coldsAfter_eq G.S G.I G.R (by omega) hw, ob, f_CT_isIn_eq (by omega), ob, iN_s]
            have es : spB (r.2 1) w p (iN k) = !(infB (r.2 1) w p (iN k)) := by
              unfold spB
              rw [hsub]
              rfl
            show (if b01 (infB (r.2 1) w p (iN k)) = 0 then _ else _) = _
            cases hi : infB (r.2 1) w p (iN k) with
            | false =>
              have hgd : spB (r.2 1) w p (iN k) = true := by rw [es, hi]; rfl
              rw [if_pos (show b01 false = 0 from rfl)]
              have : k = R := by
                refine selP.uniq ⟨by omega, hgd, fun k' hk' hg' => ?_⟩ hR
                have hle := gb k' hk' hg'
                rw [hs2]
                by_cases hkk : k' < k
                · exact Or.inl (hno2 k' hkk hg')
                · by_cases hkE : k' < 2 ^ cn (r.2 1) 5 - 1 - 2 ^ p
                  · have := hno k' hkE hg'
                    omega
                  · have hkE2 : k' = 2 ^ cn (r.2 1) 5 - 1 - 2 ^ p := by omega
                    rw [← hkE2] at hO
                    omega
              rw [this]
            | true =>
              rw [if_neg (show ¬ b01 true = 0 by decide)]
              exact nxt fun hg' => by rw [es, hi] at hg'; cases hg'
          · rw [if_neg (iN_ne hs2 (by omega) (by omega))]
            exact nxt fun hg' => by
              have := hno k (by omega) hg'
              omega
        · rw [if_neg (fun q => hsub ((sub_iff h5 hp (by omega)).mp q))]
          refine nxt fun hg' => ?_
          unfold spB at hg'
          rw [Bool.and_eq_true, Bool.not_eq_true'] at hg'
          exact absurd hg'.1 hsub
    exact key (2 ^ cn (r.2 1) 5 - 1 - 2 ^ p) 0 N (Nat.zero_add _) (by omega) fun k' hk' => absurd hk' (Nat.not_lt_zero k')
theorem iN_m2 {n : Nat} (h : n < 2147483648) : iN n ≠ -2 := by
  intro q
  have h1 : (iN n).toInt = (-2 : Int32).toInt := by rw [q]
  rw [iN_toInt h] at h1
  have h2 : (-2 : Int32).toInt = -2 := by decide
  omega
theorem spared_md (I : Inv (r.2 1)) (hN : 20000 ≤ N) (hw : w ≤ 20) (hp : p < cn (r.2 1) 5) (h0 : pC (r.2 1) p 4 = 0) : ∃ R, f_R_spared_59 N (iN p) (iN w) N (-2) 0 r = some (iN R, r) ∧ selP (fun k => spB (r.2 1) w p (iN k)) (2 ^ cn (r.2 1) 5 - 1) R := by
  have h5 := I.b5
  obtain ⟨hE, hE0, hE1⟩ := pw_k h5
  refine lp_inv (F := fun fuel k z => f_R_spared_59 N (iN p) (iN w) fuel z (iN k) r) (n := 2 ^ cn (r.2 1) 5) (P := fun k z => (z = -2 ∧ ∀ k', k' < k → spB (r.2 1) w p (iN k') = false) ∨ ∃ c, c < k ∧ z = iN c ∧ spB (r.2 1) w p (iN c) = true ∧ ∀ k', k' < k → spB (r.2 1) w p (iN k') = true → szN c < szN k' ∨ (szN c = szN k' ∧ c ≤ k')) (Q := fun t => ∃ R, t = some (iN R, r) ∧ selP (fun k => spB (r.2 1) w p (iN k)) (2 ^ cn (r.2 1) 5 - 1) R) (fun fuel z hz => ?_) (fun fuel k z hk hz => ?_) (2 ^ cn (r.2 1) 5) 0 (-2) N (by omega) (by omega) (Or.inl ⟨rfl, fun k' hk' => absurd hk' (Nat.not_lt_zero k')⟩)
  · rcases hz with ⟨-, h2⟩ | ⟨c, h1, h2, h3, h4⟩
    · have h6 := Nat.sub_le (2 ^ cn (r.2 1) 5 - 1) (2 ^ p)
      have := h2 (2 ^ cn (r.2 1) 5 - 1 - 2 ^ p) (by omega)
      rw [inf_oth I hp h0] at this
      cases this
    · refine ⟨c, ?_, by omega, h3, fun k hk => h4 k (by omega)⟩
      rw [f_R_spared_59, rlm5, ob, I.n5, hE1, if_pos (i_le_rfl _), h2]
  · have hsz : szN k ≤ 10 := by unfold szN; omega
    have e102 : ∀ f, ib (iN k) p = false → f_R_spared_102 N (iN p) (iN w) (f_R_spared_59 N (iN p) (iN w) fuel) f (iN k) r = f_R_spared_59 N (iN p) (iN w) fuel (if spB (r.2 1) w p (iN k) = true then iN k else f) (iN (k + 1)) r := fun f hsub => by
      unfold f_R_spared_102
      rw [passes_eq I (by omega) hw, ob, f_R_isOf_eq (by omega), ob, iN_s]
      have es : spB (r.2 1) w p (iN k) = !(infB (r.2 1) w p (iN k)) := by
        unfold spB
        rw [hsub]
        rfl
      rw [es]
      show (if b01 (infB (r.2 1) w p (iN k)) = 0 then _ else _) = _
      cases infB (r.2 1) w p (iN k) with
      | false => rw [if_pos (show b01 false = 0 from rfl), if_pos (by rfl)]
      | true => rw [if_neg (show ¬ b01 true = 0 by decide), if_neg (by decide)]
    by_cases hsub : ib (iN k) p = false
    · rcases hz with ⟨h1, h2⟩ | ⟨c, h1, h2, h3, h4⟩
      · refine ⟨if spB (r.2 1) w p (iN k) = true then iN k else z, ?_, ?_⟩
        · rw [f_R_spared_59, rlm5, ob, I.n5, hE1, if_neg (iN_nle hk (by omega)), f_R_isOf_eq (by omega), ob, hsub, if_pos (show b01 false = 0 from rfl), h1, if_pos rfl, e102 _ hsub]
        · cases hgd : spB (r.2 1) w p (iN k) with
          | true =>
            rw [if_pos rfl]
            refine Or.inr ⟨k, Nat.lt_succ_self k, rfl, hgd, fun k' hk' hg' => ?_⟩
            by_cases hkk : k' = k
            · rw [hkk]; exact Or.inr ⟨rfl, Nat.le_refl _⟩
            · rw [h2 k' (by omega)] at hg'
              cases hg'
          | false =>
            rw [if_neg (by decide)]
            refine Or.inl ⟨h1, fun k' hk' => ?_⟩
            by_cases hkk : k' = k
            · rw [hkk]; exact hgd
            · exact h2 k' (by omega)
      · have hsc : szN c ≤ 10 := by unfold szN; omega
        have e0 : f_R_spared_59 N (iN p) (iN w) (fuel + 1) z (iN k) r = if iN (szN k) < iN (szN c) then f_R_spared_102 N (iN p) (iN w) (f_R_spared_59 N (iN p) (iN w) fuel) z (iN k) r else f_R_spared_59 N (iN p) (iN w) fuel z (iN (k + 1)) r := by
          rw [f_R_spared_59, rlm5, ob, I.n5, hE1, if_neg (iN_nle hk (by omega)), f_R_isOf_eq (by omega), ob, hsub, if_pos (show b01 false = 0 from rfl), h2, if_neg (iN_m2 (by omega)), f_R_bits_eq (by omega) (by omega), ob, f_R_bits_eq (by omega) (by omega), ob, iN_s]
        by_cases hlt : szN k < szN c
        · refine ⟨if spB (r.2 1) w p (iN k) = true then iN k else z, e0.trans ((if_pos (iN_ylt hlt (by omega))).trans (e102 _ hsub)), Or.inr ?_⟩
          cases hgd : spB (r.2 1) w p (iN k) with
          | true =>
            rw [if_pos rfl]
            refine ⟨k, Nat.lt_succ_self k, rfl, hgd, fun k' hk' hg' => ?_⟩
            by_cases hkk : k' = k
            · rw [hkk]; exact Or.inr ⟨rfl, Nat.le_refl _⟩
            · have := h4 k' (by omega) hg'
              omega
          | false =>
            rw [if_neg (by decide)]
            refine ⟨c, by omega, h2, h3, fun k' hk' hg' => ?_⟩
            by_cases hkk : k' = k
            · rw [hkk, hgd] at hg'
              cases hg'
            · exact h4 k' (by omega) hg'
        · refine ⟨z, e0.trans (if_neg (iN_nlt (by omega) (by omega))), Or.inr ⟨c, by omega, h2, h3, fun k' hk' hg' => ?_⟩⟩
          by_cases hkk : k' = k
          · rw [hkk]
            omega
          · exact h4 k' (by omega) hg'
    · have hgd : spB (r.2 1) w p (iN k) = false := by
        unfold spB
        rw [Bool.not_eq_false] at hsub
        rw [hsub]
        rfl
      refine ⟨z, ?_, hz.imp (fun h => ⟨h.1, fun k' hk' => ?_⟩) fun h => ?_⟩
      · rw [f_R_spared_59, rlm5, ob, I.n5, hE1, if_neg (iN_nle hk (by omega)), f_R_isOf_eq (by omega), ob, (Bool.not_eq_false _).mp hsub, if_neg (show ¬ b01 true = 0 by decide), iN_s]
      · by_cases hkk : k' = k
        · rw [hkk]; exact hgd
        · exact h.2 k' (by omega)
      · obtain ⟨c, h1, h2, h3, h4⟩ := h
        refine ⟨c, by omega, h2, h3, fun k' hk' hg' => ?_⟩
        by_cases hkk : k' = k
        · rw [hkk, hgd] at hg'
          cases hg'
        · exact h4 k' (by omega) hg'
theorem op_spared (G : GS N x o ps ys M r) (hN : 20000 ≤ N) : Both N x o (f_L_spared N x a b o M) (f_R_spared N a b r) := by
  have h5 := G.I.b5
  by_cases h : okR a (cn (r.2 1) 5)
  · by_cases h2 : okI b 0 20
    · obtain ⟨w, -, h3, rfl⟩ := h2
      have hp := h
      obtain ⟨p, h4, rfl⟩ := h
      have hcl : ∀ v, (if pC (r.2 1) p 4 = 0 then f_CT_spared_47 N x (iN p) (iN w) N (iN (2 ^ cn (r.2 1) 5 - 1 - 2 ^ p)) 0 M else some (Sum.inl (-2), M)) = some ((Sum.inl v : Int32 ⊕ String), M) → f_L_spared N x (iN p) (iN w) o M = lsO o v M := fun v hv => by
        unfold f_L_spared f_CT_spared
        rw [G.A.c, ob, ob, needP_y G hp, ob, sx_l, show f_CT_needNumber (iN w) 0 20 M = some (.inl (), M) from needN_y (lo := 0) (hi := 20) (by omega) h3 (by decide), ob, sx_l, G.A.gN, ob, G.S.g_people, ob, G.S.g_person (show p < 10 by omega), ob, G.S.iP (show p < 10 by omega), ob, G.R.q4 G.I h4]
        simp only [ob, G.S.c0, f_Town_everybody_eq G.S G.R, evS_eq G.I, (oth_all ⟨cn (r.2 1) 5, by omega⟩ ⟨p, by omega⟩ h4).1]
        rw [hv, ob, sx_l]
        rfl
      have hmd : ∀ v, (if pC (r.2 1) p 4 = 1 then some ((-2), r_set r 0 0) else f_R_spared_59 N (iN p) (iN w) N (-2) 0 (r_set r 0 0)) = some (v, r_set r 0 0) → f_R_spared N (iN p) (iN w) r = some (v, r_set r 0 0) := fun v hv => by
        unfold f_R_spared f_R_spared_28
        rw [isPerson_y G.I hp, ob, if_neg i1n, show f_R_isIn (iN w) 0 20 = some 1 from isInI_y (lo := 0) (hi := 20) (by omega) h3 (by decide), ob, if_neg i1n, th0, if_pos i00, of4 (by omega), ob]
        exact hv
      by_cases h0 : pC (r.2 1) p 4 = 0
      · obtain ⟨R, m1, hR⟩ := spared_md (r := r_set r 0 0) (N := N) (w := w) (p := p) G.I hN h3 h4 h0
        have c1 := spared_cl G hN h3 h4 h0 hR (cn (r.2 1) 5) 0 N (Nat.zero_add _) (by omega) fun k _ _ => Nat.zero_le _
        exact both_ok (v := iN R) (G.th 0) (th0 r 0) (hcl _ ((if_pos h0).trans c1)) (hmd _ ((if_neg (by rw [h0]; decide)).trans m1))
      · have h1 : pC (r.2 1) p 4 = 1 := (G.I.p h4).2.1.resolve_left h0
        exact both_ok (v := -2) (G.th 0) (th0 r 0) (hcl _ (if_neg h0)) (hmd _ (if_pos h1))
    · refine both_ex (c := 2) (v := 0) (G.new.th 2) (by decide) (th0 r 2) ?_ ?_
      · unfold f_L_spared f_CT_spared
        rw [G.A.c, ob, ob, needP_y G h, ob, sx_l, show f_CT_needNumber b 0 20 M = some (.inr "java/lang/IllegalArgumentException", m_new M (0, 0)) from needN_n (lo := 0) (hi := 20) h2 (by decide) (by decide), ob, sx_r, ob, sx_r, if_neg (by decide), if_pos rfl]
      · unfold f_R_spared f_R_spared_28
        rw [isPerson_y G.I h, ob, if_neg i1n, show f_R_isIn b 0 20 = some 0 from isInI_n (lo := 0) (hi := 20) h2 (by decide) (by decide), ob, if_pos rfl, th0, if_neg i20]
  · refine both_ex (c := 1) (v := 0) (G.new.th 1) i1n (th0 r 1) ?_ ?_
    · unfold f_L_spared f_CT_spared
      rw [G.A.c, ob, ob, needP_n G h, ob, sx_r, ob, sx_r, if_pos rfl]
    · unfold f_R_spared f_R_spared_28
      rw [isPerson_n G.I h, ob, if_pos rfl, th0, if_neg i10]
end Sd
