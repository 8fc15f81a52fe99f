section Ya
variable {N x o t B n p k : Nat} {ps ys zs : Nat → Nat} {M K L : Mem} {r q : Rho} {fr ow pr : Nat → Int32} {a b g : Int32} {m m2 m0 : Nat → Int32} {lw : (Nat → Int32) → Int32}
/-- how many have g -/
def hvN (ow : Nat → Int32) (n : Nat) (g : Int32) : Nat := ctB (fun i => decide (ow i = g)) n
theorem hvN_le (ow : Nat → Int32) (n : Nat) (g : Int32) : hvN ow n g ≤ n := ctB_le _ n
theorem hvN_s (ow : Nat → Int32) (n : Nat) (g : Int32) : hvN ow (n + 1) g = hvN ow n g + (if ow n = g then 1 else 0) := by
  unfold hvN
  rw [ctB_s]
  by_cases h : ow n = g
  · rw [if_pos h, if_pos (decide_eq_true h)]
  · rw [if_neg h, decide_eq_false h]; rfl
/-- how many kinds -/
def kdN (ow : Nat → Int32) (n : Nat) : Nat := ctB (fun i => decide (hvN ow i (ow i) = 0)) n
theorem kdN_le (ow : Nat → Int32) (n : Nat) : kdN ow n ≤ n := ctB_le _ n
theorem kdN_s (ow : Nat → Int32) (n : Nat) : kdN ow (n + 1) = kdN ow n + (if hvN ow n (ow n) = 0 then 1 else 0) := by
  unfold kdN
  rw [ctB_s]
  by_cases h : hvN ow n (ow n) = 0
  · rw [if_pos h, if_pos (decide_eq_true h)]
  · rw [if_neg h, decide_eq_false h]; rfl
theorem kinds_cl (A : XSk M x ps ys) (Y : YC M x ys n fr ow) (hN : 100 < N) (hn : n ≤ 10) (hw : ∀ k, k < n → nx (ow k) 32) : f_Years_kinds N (x + 126) M = some (iN (kdN ow n)) := by
  have hy := A.yq
  unfold f_Years_kinds
  refine lp_inv (F := fun fuel k z => f_Years_kinds_4 N (x + 126) M fuel z (iN k)) (n := n) (P := fun k z => ctB (ib z) 32 = kdN ow k ∧ ∀ g, g < 32 → (ib z g = true ↔ hvN ow k (iN g) ≠ 0)) (Q := fun t => t = some (iN (kdN ow n))) (fun fuel z hz => ?_) (fun fuel k z hk hz => ?_) n 0 0 N (by omega) (by omega) ⟨by show ctB (ib 0) 32 = 0; decide, fun g _ => by rw [ib_0]; exact ⟨fun h => Bool.noConfusion h, fun h => absurd rfl h⟩⟩
  · rw [f_Years_kinds_4, A.yi, ob, Y.1, if_pos (i_le_rfl _), bitCount_ct, ob, hz.1]
  · obtain ⟨c, hc, ec⟩ := hw k hk
    refine ⟨z ||| ((1 : Int32) <<< (iN c &&& 31)), ?_, ?_, fun g hg => ?_⟩
    · rw [f_Years_kinds_4, A.yi, ob, Y.1, if_neg (iN_nle hk (by omega)), A.y2, ob, A.yo hy.1 (by omega), ob, (Y.2 k hk).2, ec, iN_s]
    · rw [ct_or z hc, hz.1, kdN_s, ec]
      have h1 := hz.2 c hc
      by_cases h : hvN ow k (iN c) = 0
      · rw [if_pos h, if_neg (fun q => h1.mp q h)]
      · rw [if_neg h, if_pos (h1.mpr h)]
    · rw [ib_or, ib_shl hc, hvN_s, ec, Bool.or_eq_true, decide_eq_true_eq, hz.2 g hg]
      by_cases h : g = c
      · rw [h, if_pos rfl]
        exact ⟨fun _ => by omega, fun _ => Or.inr rfl⟩
      · rw [if_neg (fun q => h ((iN_inj (by omega) (by omega)).mp q).symm), Nat.add_zero]
        exact ⟨fun q => q.elim id fun q => absurd q h, Or.inl⟩
theorem have_cl (A : XSk M x ps ys) (Y : YC M x ys n fr ow) (hN : 100 < N) (hn : n ≤ 10) (g : Int32) : f_Years_howManyHave N (x + 126) g M = some (iN (hvN ow n g)) := by
  have hy := A.yq
  unfold f_Years_howManyHave
  refine lp_inv (F := fun fuel k z => f_Years_howManyHave_4 N (x + 126) g M fuel z (iN k)) (n := n) (P := fun k z => z = iN (hvN ow k g)) (Q := fun t => t = some (iN (hvN ow n g))) (fun fuel z hz => ?_) (fun fuel k z hk hz => ?_) n 0 0 N (by omega) (by omega) rfl
  · rw [f_Years_howManyHave_4, A.yi, ob, Y.1, if_pos (i_le_rfl _), hz]
  · refine ⟨iN (hvN ow (k + 1) g), ?_, rfl⟩
    rw [f_Years_howManyHave_4, A.yi, ob, Y.1, if_neg (iN_nle hk (by omega)), A.y2, ob, A.yo hy.1 (by omega), ob, (Y.2 k hk).2, hvN_s, hz]
    unfold f_Years_howManyHave_28
    by_cases h : ow k = g
    · rw [if_pos h, if_pos h, iN_s, iN_s]
    · rw [if_neg h, if_neg h, Int32.add_zero, Nat.add_zero (hvN ow k g), iN_s]
/-- the most common one, the least of them -/
def cmP (ow : Nat → Int32) (n : Nat) (R : Int32) : Prop := (n = 0 ∧ R = -1) ∨ (0 < n ∧ ∃ c, c < 32 ∧ R = iN c ∧ ∀ h, h < 32 → hvN ow n (iN h) ≤ hvN ow n (iN c) ∧ (hvN ow n (iN h) = hvN ow n (iN c) → c ≤ h))
theorem common_cl (A : XSk M x ps ys) (Y : YC M x ys n fr ow) (hN : 100 < N) (hn : n ≤ 10) (hw : ∀ k, k < n → nx (ow k) 32) : ∃ R, f_Years_mostCommon N (x + 126) M = some R ∧ cmP ow n R := by
  unfold f_Years_mostCommon
  refine lp_inv (F := fun fuel k (z : Int32 × Int32) => f_Years_mostCommon_6 N (x + 126) M fuel z.1 z.2 (iN k)) (n := 32) (P := fun k z => (z.1 = -1 ∧ z.2 = 0 ∧ ∀ h, h < k → hvN ow n (iN h) = 0) ∨ (∃ c, (c < 32 ∧ c < k) ∧ z.1 = iN c ∧ z.2 = iN (hvN ow n (iN c)) ∧ 0 < hvN ow n (iN c) ∧ ∀ h, h < k → hvN ow n (iN h) ≤ hvN ow n (iN c) ∧ (hvN ow n (iN h) = hvN ow n (iN c) → c ≤ h))) (Q := fun t => ∃ R, t = some R ∧ cmP ow n R) (fun fuel z hz => ?_) (fun fuel k z hk hz => ?_) 32 0 (-1, 0) N (by omega) (by omega) (Or.inl ⟨rfl, rfl, fun h hh => absurd hh (Nat.not_lt_zero h)⟩)
  · refine ⟨z.1, ?_, ?_⟩
    · show f_Years_mostCommon_6 N (x + 126) M (fuel + 1) z.1 z.2 (iN 32) = _
      rw [f_Years_mostCommon_6, if_pos (show (32 : Int32) ≤ iN 32 from i_le_rfl _)]
    · rcases hz with ⟨h1, h2, h3⟩ | ⟨c, h1, h2, h3, h4, h5⟩
      · refine Or.inl ⟨Nat.eq_zero_of_not_pos fun hp => ?_, h1⟩
        obtain ⟨d, hd, ed⟩ := hw 0 hp
        have := h3 d hd
        have h6 : 0 < hvN ow n (iN d) := (ctB_pos _ n).mpr ⟨0, hp, decide_eq_true ed⟩
        omega
      · have := hvN_le ow n (iN c)
        exact Or.inr ⟨by omega, c, h1.1, h2, h5⟩
  · have e0 : f_Years_mostCommon_6 N (x + 126) M (fuel + 1) z.1 z.2 (iN k) = if iN (hvN ow n (iN k)) ≤ z.2 then f_Years_mostCommon_6 N (x + 126) M fuel z.1 z.2 (iN (k + 1)) else f_Years_mostCommon_6 N (x + 126) M fuel (iN k) (iN (hvN ow n (iN k))) (iN (k + 1)) := by
      rw [f_Years_mostCommon_6, if_neg (show ¬ (32 : Int32) ≤ iN k from iN_nle (n := 32) hk (by decide)), A.yc, ob, have_cl A Y hN hn, ob, iN_s]
    have bk := hvN_le ow n (iN k)
    rcases hz with ⟨h1, h2, h3⟩ | ⟨c, h1, h2, h3, h4, h5⟩
    · by_cases h : hvN ow n (iN k) = 0
      · refine ⟨z, e0.trans (if_pos (by rw [h2, h]; exact i_le_rfl _)), Or.inl ⟨h1, h2, fun i hi => ?_⟩⟩
        by_cases hik : i = k
        · rw [hik]; exact h
        · exact h3 i (by omega)
      · refine ⟨(_, _), e0.trans (if_neg (by rw [h2]; exact iN_nle (n := hvN ow n (iN k)) (k := 0) (by omega) (by omega))), Or.inr ⟨k, ⟨hk, Nat.lt_succ_self k⟩, rfl, rfl, by omega, fun i hi => ?_⟩⟩
        by_cases hik : i = k
        · rw [hik]; exact ⟨Nat.le_refl _, fun _ => Nat.le_refl _⟩
        · have := h3 i (by omega)
          exact ⟨by omega, fun q => by omega⟩
    · have bc := hvN_le ow n (iN c)
      by_cases h : hvN ow n (iN k) ≤ hvN ow n (iN c)
      · refine ⟨z, e0.trans (if_pos (by rw [h3]; exact iN_yle h (by omega))), Or.inr ⟨c, ⟨h1.1, by omega⟩, h2, h3, h4, fun i hi => ?_⟩⟩
        by_cases hik : i = k
        · rw [hik]
          exact ⟨h, fun q => by omega⟩
        · exact h5 i (by omega)
      · refine ⟨(_, _), e0.trans (if_neg (by rw [h3]; exact iN_nle (by omega) (by omega))), Or.inr ⟨k, ⟨hk, Nat.lt_succ_self k⟩, rfl, rfl, by omega, fun i hi => ?_⟩⟩
        by_cases hik : i = k
        · rw [hik]; exact ⟨Nat.le_refl _, fun _ => Nat.le_refl _⟩
        · have := (h5 i (by omega)).1
          exact ⟨by omega, fun q => by omega⟩
theorem counts_md (I : Inv (r.2 1)) (hN : 100 < N) (Y : YR r (cn (r.2 1) 5) fr ow) (hw : ∀ k, k < cn (r.2 1) 5 → nx (ow k) 32) : ∃ q, f_R_counts N r = some (iN (kdN ow (cn (r.2 1) 5)), q) ∧ Vq r q ∧ ∀ g, g < 32 → q.2 21 g = iN (hvN ow (cn (r.2 1) 5) (iN g)) := by
  have h5 := I.b5
  have c25 : ∀ q, Vq r q → (∀ g, g < 32 → q.2 21 g = 0) → ∃ s, f_R_counts_25 N N 0 0 q = some (iN (kdN ow (cn (r.2 1) 5)), s) ∧ Vq r s ∧ ∀ g, g < 32 → s.2 21 g = iN (hvN ow (cn (r.2 1) 5) (iN g)) := by
    intro q hq hv
    refine lp_inv (F := fun fuel k (z : Int32 × Rho) => f_R_counts_25 N fuel z.1 (iN k) z.2) (n := cn (r.2 1) 5) (P := fun k z => z.1 = iN (kdN ow k) ∧ Vq r z.2 ∧ ∀ g, g < 32 → z.2.2 21 g = iN (hvN ow k (iN g))) (Q := fun t => ∃ s, t = some (iN (kdN ow (cn (r.2 1) 5)), s) ∧ Vq r s ∧ ∀ g, g < 32 → s.2 21 g = iN (hvN ow (cn (r.2 1) 5) (iN g))) (fun fuel z hz => ?_) (fun fuel k z hk hz => ?_) (cn (r.2 1) 5) 0 (0, q) N (by omega) (by omega) ⟨rfl, hq, hv⟩
    · obtain ⟨z1, z2, z3⟩ := hz
      refine ⟨z.2, ?_, z2, z3⟩
      show f_R_counts_25 N (fuel + 1) z.1 (iN (cn (r.2 1) 5)) z.2 = _
      rw [f_R_counts_25, rlm5, ob, z2.2 1 (by decide), I.n5, if_pos (i_le_rfl _), z1]
    · obtain ⟨z1, z2, z3⟩ := hz
      obtain ⟨c, hc, ec⟩ := hw k hk
      have bc := hvN_le ow k (iN c)
      refine ⟨(iN (kdN ow (k + 1)), r_st z.2 21 c (iN (hvN ow k (iN c)) + 1)), ?_, rfl, z2.st, fun g hg => ?_⟩
      · have fin : ∀ y, f_R_counts_55 N (f_R_counts_25 N fuel) (iN k) (iN (kdN ow k)) y z.2 = f_R_counts_25 N fuel (iN (kdN ow k) + y) (iN (k + 1)) (r_st z.2 21 c (iN (hvN ow k (iN c)) + 1)) := fun y => by
          unfold f_R_counts_55
          rw [y18 (by omega), ob, z2.2 18 (by decide), (Y k hk).1, ec, y21 hc, ob, z3 c hc, yw21 hc, ob, iN_s k]
        show f_R_counts_25 N (fuel + 1) z.1 (iN k) z.2 = f_R_counts_25 N fuel (iN (kdN ow (k + 1))) (iN (k + 1)) _
        rw [f_R_counts_25, rlm5, ob, z2.2 1 (by decide), I.n5, if_neg (iN_nle hk (by omega)), z1, fin, fin, y18 (by omega), ob, z2.2 18 (by decide), (Y k hk).1, ec, y21 hc, ob, z3 c hc, kdN_s, ec]
        by_cases h : hvN ow k (iN c) = 0
        · rw [if_pos h, if_pos (by rw [h]; rfl), iN_s (kdN ow k)]
        · rw [if_neg h, if_neg (show ¬ iN (hvN ow k (iN c)) = 0 from iN_ne (b := 0) h (by omega) (by decide)), Int32.add_zero, Nat.add_zero (kdN ow k)]
      · show (r_st z.2 21 c (iN (hvN ow k (iN c)) + 1)).2 21 g = _
        rw [rst_own, hvN_s, ec]
        by_cases h : g = c
        · rw [if_pos h, h, if_pos rfl, iN_s]
        · rw [if_neg h, z3 g hg, if_neg (fun q => h ((iN_inj (by omega) (by omega)).mp q).symm), Nat.add_zero]
  unfold f_R_counts
  refine lp_inv (F := fun fuel k z => f_R_counts_4 N fuel 0 (iN k) z) (n := 32) (P := fun k z => Vq r z ∧ ∀ g, g < k → z.2 21 g = 0) (Q := fun t => ∃ s, t = some (iN (kdN ow (cn (r.2 1) 5)), s) ∧ Vq r s ∧ ∀ g, g < 32 → s.2 21 g = iN (hvN ow (cn (r.2 1) 5) (iN g))) (fun fuel z hz => ?_) (fun fuel k z hk hz => ?_) 32 0 r N (by omega) (by omega) ⟨⟨rfl, fun _ _ => rfl⟩, fun g hg => absurd hg (Nat.not_lt_zero g)⟩
  · rw [f_R_counts_4, if_pos (show (32 : Int32) ≤ iN 32 from i_le_rfl _)]
    exact c25 z hz.1 hz.2
  · refine ⟨_, ?_, hz.1.st (k := k) (v := 0), fun g hg => ?_⟩
    · rw [f_R_counts_4, if_neg (show ¬ (32 : Int32) ≤ iN k from iN_nle (n := 32) hk (by decide)), yw21 hk, ob, iN_s]
    · rw [rst_own]
      by_cases h : g = k
      · rw [if_pos h]
      · rw [if_neg h]; exact hz.2 g (by omega)
theorem kd_pos (hn : 0 < n) : 0 < kdN ow n := (ctB_pos _ n).mpr ⟨0, hn, rfl⟩
theorem after69_md (hN : 100 < N) (hn : n ≤ 10) (hv : ∀ g, g < 32 → r.2 21 g = iN (hvN ow n (iN g))) {R : Int32} (hR : cmP ow n R) (b : Int32) : f_R_after_69 N a b N (iN (kdN ow n)) 0 1 r = some (if b = 2 then iN (hvN ow n R) else R, r) := by
  have h := lp_inv (F := fun fuel k z => f_R_after_69 N a b fuel (iN (kdN ow n)) z (iN k) r) (n := 32) (P := fun k z => 0 < k ∧ ∃ c, (c < 32 ∧ c < k) ∧ z = iN c ∧ ∀ h, h < k → hvN ow n (iN h) ≤ hvN ow n (iN c) ∧ (hvN ow n (iN h) = hvN ow n (iN c) → c ≤ h)) (Q := fun t => t = some (if b = 2 then iN (hvN ow n R) else R, r)) (fun fuel z hz => ?_) (fun fuel k z hk hz => ?_) 31 1 0 N (by omega) (by omega) ⟨by decide, 0, ⟨by decide, by decide⟩, rfl, fun h hh => by rw [show h = 0 by omega]; exact ⟨Nat.le_refl _, fun _ => Nat.le_refl _⟩⟩
  · exact h
  · obtain ⟨-, c, h1, rfl, h2⟩ := hz
    rw [f_R_after_69, if_pos (show (32 : Int32) ≤ iN 32 from i_le_rfl _), y21 h1.1, ob, hv c h1.1]
    rcases hR with ⟨hn0, rfl⟩ | ⟨hn0, d, hd, rfl, h3⟩
    · subst hn0
      by_cases hb : b = 2
      · rw [if_pos hb, if_pos hb]
        rfl
      · rw [if_neg hb, if_neg hb]
        exact if_pos rfl
    · have h4 := h2 d hd
      have h5 := h3 c h1.1
      have e : hvN ow n (iN c) = hvN ow n (iN d) := by omega
      obtain rfl : c = d := by
        have := h4.2 e.symm
        have := h5.2 e
        omega
      have kp := kd_pos (ow := ow) hn0
      have kl := kdN_le ow n
      by_cases hb : b = 2
      · rw [if_pos hb, if_pos hb]
      · rw [if_neg hb, if_neg hb]
        exact if_neg (show ¬ iN (kdN ow n) = iN 0 from iN_ne (by omega) (by omega) (by decide))
  · obtain ⟨h0, c, h1, rfl, h2⟩ := hz
    have bk := hvN_le ow n (iN k)
    have bc := hvN_le ow n (iN c)
    have e0 : f_R_after_69 N a b (fuel + 1) (iN (kdN ow n)) (iN c) (iN k) r = if iN (hvN ow n (iN k)) ≤ iN (hvN ow n (iN c)) then f_R_after_69 N a b fuel (iN (kdN ow n)) (iN c) (iN (k + 1)) r else f_R_after_69 N a b fuel (iN (kdN ow n)) (iN k) (iN (k + 1)) r := by
      rw [f_R_after_69, if_neg (show ¬ (32 : Int32) ≤ iN k from iN_nle (n := 32) hk (by decide)), y21 hk, ob, y21 h1.1, ob, hv k hk, hv c h1.1, iN_s]
    by_cases h : hvN ow n (iN k) ≤ hvN ow n (iN c)
    · refine ⟨iN c, e0.trans (if_pos (iN_yle h (by omega))), by omega, c, ⟨h1.1, by omega⟩, rfl, fun i hi => ?_⟩
      by_cases hik : i = k
      · rw [hik]; exact ⟨h, fun q => by omega⟩
      · exact h2 i (by omega)
    · refine ⟨iN k, e0.trans (if_neg (iN_nle (by omega) (by omega))), by omega, k, ⟨hk, by omega⟩, rfl, fun i hi => ?_⟩
      by_cases hik : i = k
      · rw [hik]; exact ⟨Nat.le_refl _, fun _ => Nat.le_refl _⟩
      · have := (h2 i (by omega)).1
        exact ⟨by omega, fun q => by omega⟩
theorem isIn02 (h : okR a 3) : f_R_isIn a 0 2 = some 1 := isIn_y (n := 3) h (by decide)
theorem isIn02n (h : ¬ okR a 3) : f_R_isIn a 0 2 = some 0 := isIn_n (n := 3) h (by decide)
theorem op_after (G : GS N x o ps ys M r) (hN : 20000 ≤ N) : Both N x o (f_L_after N x a b o M) (f_R_after N a b r) := by
  have h5 := G.I.b5
  by_cases h : okI a 0 60
  · obtain ⟨n, -, h3, rfl⟩ := h
    by_cases h2 : okR b 3
    · obtain ⟨K, c1, G1, Y1, L1⟩ := startFrom_cl (N := N) G G.S G.I G.R (by omega) (by omega)
      obtain ⟨q, m1, s1, Z1⟩ := starts_md (r := r_set r 0 0) (N := N) G.I (by omega) 0 0
      obtain ⟨K2, zs, c2, G2, Y2⟩ := passYears_cl (N := N) (w := n) G1 (owS_can _ _ _) Y1 L1 (by omega) h5 (nx_00 G.I) (fun p hp => frM_self _ (by omega)) h3
      obtain ⟨q2, m2, s2, Z2⟩ := years_md (r := q) (N := N) (n := n) (fr := frM (r.2 1)) (ow := owS (r.2 1) 0 0) (by rw [s1.em]; exact G.I) (by omega) (by rw [s1.em]; exact owS_can _ _ _) (by rw [s1.em]; exact Z1) (by rw [s1.em]; exact nx_00 G.I) h3
      have e1 : q.2 1 = r.2 1 := s1.em
      have e2 : q2.2 1 = r.2 1 := s2.em.trans e1
      rw [e1] at Z2
      have hw := itM_nx (fr := frM (r.2 1)) (nx_00 G.I) n
      obtain ⟨q3, m3, s3, v3⟩ := counts_md (r := q2) (N := N) (fr := frM (r.2 1)) (ow := itM (frM (r.2 1)) (cn (r.2 1) 5) (owS (r.2 1) 0 0) n) (by rw [e2]; exact G.I) (by omega) (by rw [e2]; exact Z2) (by rw [e2]; exact hw)
      rw [e2] at m3 v3
      have kd := kinds_cl (N := N) G2.A Y2 (by omega) h5 hw
      obtain ⟨R, cm, hR⟩ := common_cl (N := N) G2.A Y2 (by omega) h5 hw
      have cl : ∀ v, (if b = 0 then some (Sum.inl (iN (kdN (itM (frM (r.2 1)) (cn (r.2 1) 5) (owS (r.2 1) 0 0) n) (cn (r.2 1) 5))), K2) else if b = 1 then some (Sum.inl R, K2) else some (Sum.inl (iN (hvN (itM (frM (r.2 1)) (cn (r.2 1) 5) (owS (r.2 1) 0 0) n) (cn (r.2 1) 5) R)), K2)) = some ((Sum.inl v : Int32 ⊕ String), K2) → f_L_after N x (iN n) b o M = lsO o v K2 := fun v hv => by
        unfold f_L_after f_CT_after
        rw [G.A.c, ob, show f_CT_needNumber (iN n) 0 60 M = some (.inl (), M) from needN_y (lo := 0) (hi := 60) (by omega) h3 (by decide), ob, sx_l, show f_CT_needWhat b 2 M = some (.inl (), M) from needW_y 2 (by decide) h2, ob, sx_l, G.A.gY, ob, G.A.gN, ob, G.A.yc, ob, c1, ob, G1.A.gY, ob, G1.A.yc, ob, c2, ob]
        simp only [G2.A.gY, G2.A.yc, ob, kd, cm, have_cl G2.A Y2 (show 100 < N by omega) h5]
        rw [hv, ob, sx_l]
        rfl
      have hth : q3.1 0 = 0 := by
        rw [s3.1, s2.1, s1.1]
        exact th0 r 0
      have G3 : GS N x o ps zs K2 q3 := (G2.th 0).s0 ((s1.trans s2).trans s3.y).s0
      have a69 := after69_md (r := q3) (N := N) (a := iN n) (by omega) h5 v3 hR b
      have md : f_R_after N (iN n) b r = if b = 0 then some (iN (kdN (itM (frM (r.2 1)) (cn (r.2 1) 5) (owS (r.2 1) 0 0) n) (cn (r.2 1) 5)), q3) else some (if b = 2 then iN (hvN (itM (frM (r.2 1)) (cn (r.2 1) 5) (owS (r.2 1) 0 0) n) (cn (r.2 1) 5) R) else R, q3) := by
        unfold f_R_after f_R_after_29
        rw [show f_R_isIn (iN n) 0 60 = some 1 from isInI_y (lo := 0) (hi := 60) (by omega) h3 (by decide), ob, if_neg i1n, isIn02 h2, ob, if_neg i1n, th0, if_pos i00, m1, ob, m2, ob, m3, ob]
        dsimp only
        rw [a69]
      obtain ⟨c, hc, rfl⟩ := h2
      have h02 : c = 0 ∨ c = 1 ∨ c = 2 := by omega
      rcases h02 with rfl | rfl | rfl
      · exact both_ok G3 hth (cl _ (if_pos rfl)) (md.trans (if_pos rfl))
      · exact both_ok G3 hth (cl _ ((if_neg (by decide)).trans (if_pos rfl))) (md.trans ((if_neg (by decide)).trans (by rw [if_neg (by decide)])))
      · exact both_ok G3 hth (cl _ ((if_neg (by decide)).trans (if_neg (by decide)))) (md.trans ((if_neg (by decide)).trans (by rw [if_pos (show iN 2 = 2 from rfl)])))
    · refine both_ex (c := 2) (v := 0) (G.new.th 2) (by decide) (th0 r 2) ?_ ?_
      · unfold f_L_after f_CT_after
        rw [G.A.c, ob, show f_CT_needNumber (iN n) 0 60 M = some (.inl (), M) from needN_y (lo := 0) (hi := 60) (by omega) h3 (by decide), ob, sx_l, show f_CT_needWhat b 2 M = some (.inr "java/util/NoSuchElementException", m_new M (0, 0)) from needW_n 2 (by decide) h2, ob, sx_r, ob, sx_r, if_neg (by decide), if_pos rfl]
      · unfold f_R_after f_R_after_29
        rw [show f_R_isIn (iN n) 0 60 = some 1 from isInI_y (lo := 0) (hi := 60) (by omega) h3 (by decide), ob, if_neg i1n, isIn02n h2, ob, if_pos rfl, th0, if_neg i20]
  · refine both_ex (c := 1) (v := 0) (G.new.th 1) i1n (th0 r 1) ?_ ?_
    · unfold f_L_after f_CT_after
      rw [G.A.c, ob, show f_CT_needNumber a 0 60 M = some (.inr "java/lang/IllegalArgumentException", m_new M (0, 0)) from needN_n (lo := 0) (hi := 60) h (by decide) (by decide), ob, sx_r, ob, sx_r, if_pos rfl]
    · unfold f_R_after f_R_after_29
      rw [show f_R_isIn a 0 60 = some 0 from isInI_n (lo := 0) (hi := 60) h (by decide) (by decide), ob, if_pos rfl, th0, if_neg i10]
end Ya
