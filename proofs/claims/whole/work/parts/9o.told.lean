section Td
variable {N x o t B n p k w : Nat} {ps ys zs : Nat → Nat} {M K L : Mem} {r q : Rho} {fr ow pr : Nat → Int32} {a b g : Int32} {m m2 m0 : Nat → Int32} {lw : (Nat → Int32) → Int32}
/-- the least, of the sets that do -/
def selP (good : Nat → Bool) (E R : Nat) : Prop := R ≤ E ∧ good R = true ∧ ∀ k, k ≤ E → good k = true → szN R < szN k ∨ (szN R = szN k ∧ R ≤ k)
theorem selP.uniq {good : Nat → Bool} {E R S : Nat} (h : selP good E R) (k : selP good E S) : R = S := by
  have h1 := h.2.2 S k.1 k.2.1
  have h2 := k.2.2 R h.1 h.2.1
  omega
theorem sz_all : ∀ n : Fin 11, ∀ k : Fin 1024, k.val < 2 ^ n.val - 1 → szN k.val < n.val := by decide +kernel
theorem pw_all : ∀ n : Fin 11, 2 ^ n.val ≤ 1024 ∧ 0 < 2 ^ n.val ∧ ((1 : Int32) <<< (iN n.val &&& 31)) = iN (2 ^ n.val) := by decide +kernel
theorem ev_all : ∀ n : Fin 11, ∀ i : Fin 32, ib (iN (2 ^ n.val - 1)) i.val = decide (i.val < n.val) := by decide +kernel
theorem pw_k (hn : n ≤ 10) : 2 ^ n ≤ 1024 ∧ 0 < 2 ^ n ∧ ((1 : Int32) <<< (iN n &&& 31)) = iN (2 ^ n) := pw_all ⟨n, by omega⟩
theorem evS_eq (I : Inv m) : evS m = iN (2 ^ cn m 5 - 1) := by
  have h := pw_k I.b5
  unfold evS
  rw [I.n5, h.2.2]
  exact iN_sub (b := 1) h.2.1
theorem hv_all (ow : Nat → Int32) (g : Int32) : ∀ n, hvN ow n g = n ↔ ∀ k, k < n → ow k = g := by
  intro n
  induction n with
  | zero => exact ⟨fun _ k hk => absurd hk (Nat.not_lt_zero k), fun _ => rfl⟩
  | succ n ih =>
    have hl := hvN_le ow n g
    rw [hvN_s]
    by_cases h : ow n = g
    · rw [if_pos h]
      constructor
      · intro h2 k hk
        by_cases hkn : k = n
        · rw [hkn]; exact h
        · exact ih.mp (by omega) k (by omega)
      · intro h2
        have := ih.mpr fun k hk => h2 k (by omega)
        omega
    · rw [if_neg h]
      exact ⟨fun h2 => by omega, fun h2 => absurd (h2 n (by omega)) h⟩
/-- all have g after w years, if these are told -/
def gdB (m : Nat → Int32) (g : Int32) (w : Nat) (a : Int32) : Bool := decide (hvN (itM (frM m) (cn m 5) (owS m a g) w) (cn m 5) g = cn m 5)
theorem wins_cl (G : GS N x o ps ys M r) (hN : 100 < N) (hw : w ≤ 60) (hg : nx g 32) (a : Int32) : ∃ K zs, f_CT_wins N x g (iN w) a M = some (b01 (gdB (r.2 1) g w a), K) ∧ GS N x o ps zs K r := by
  have h5 := G.I.b5
  obtain ⟨K, c1, G1, Y1, L1⟩ := startFrom_cl (N := N) G G.S G.I G.R (by omega) (by omega)
  obtain ⟨K2, c2, G2, Y2, L2⟩ := tell_cl (N := N) G1 h5 Y1 L1 hN a g
  obtain ⟨K3, zs, c3, G3, Y3⟩ := passYears_cl (N := N) (w := w) G2 (owS_can _ _ _) Y2 L2 hN h5 (owS_nx G.I hg) (fun p hp => frM_self _ (by omega)) hw
  refine ⟨K3, zs, ?_, G3⟩
  have hl := hvN_le (itM (frM (r.2 1)) (cn (r.2 1) 5) (owS (r.2 1) a g) w) (cn (r.2 1) 5) g
  unfold f_CT_wins gdB
  rw [G.A.gY, ob, G.A.gN, ob, G.A.yc, ob, c1, ob, G1.A.gY, ob, G1.A.yc, ob, c2, ob, G2.A.gY, ob, G2.A.yc, ob, c3, ob, G3.A.gY, ob, G3.A.yc, ob, have_cl G3.A Y3 hN h5, ob, G3.A.gN, ob, G3.S.i0, ob, G3.R.v5, G.I.n5]
  by_cases h : hvN (itM (frM (r.2 1)) (cn (r.2 1) 5) (owS (r.2 1) a g) w) (cn (r.2 1) 5) g = cn (r.2 1) 5
  · rw [if_pos (by rw [h]), decide_eq_true h]; rfl
  · rw [if_neg (iN_ne h (by omega) (by omega)), decide_eq_false h]; rfl
theorem wins_md (I : Inv (r.2 1)) (hN : 100 < N) (hw : w ≤ 60) (hg : nx g 32) (a : Int32) : ∃ q, f_R_wins N a g (iN w) r = some (b01 (gdB (r.2 1) g w a), q) ∧ Yq r q := by
  have h5 := I.b5
  obtain ⟨q, m1, s1, Z1⟩ := starts_md (r := r) (N := N) I (by omega) a g
  have e1 : q.2 1 = r.2 1 := s1.em
  obtain ⟨q2, m2, s2, Z2⟩ := years_md (r := q) (N := N) (n := w) (fr := frM (r.2 1)) (ow := owS (r.2 1) a g) (by rw [e1]; exact I) hN (by rw [e1]; exact owS_can _ _ _) (by rw [e1]; exact Z1) (by rw [e1]; exact owS_nx I hg) hw
  have e2 : q2.2 1 = r.2 1 := s2.em.trans e1
  rw [e1] at Z2
  refine ⟨q2, ?_, s1.trans s2⟩
  unfold f_R_wins
  rw [m1, ob, m2, ob]
  have key : ∀ (j k fuel : Nat), k + j = cn (r.2 1) 5 → j < fuel → (∀ i, i < k → itM (frM (r.2 1)) (cn (r.2 1) 5) (owS (r.2 1) a g) w i = g) → f_R_wins_14 N a g (iN w) fuel (iN k) q2 = some (b01 (gdB (r.2 1) g w a), q2) := by
    intro j
    induction j with
    | zero =>
      intro k fuel hk hf h
      obtain ⟨fu, rfl⟩ : ∃ fu, fuel = fu + 1 := ⟨fuel - 1, by omega⟩
      obtain rfl : k = cn (r.2 1) 5 := by omega
      rw [f_R_wins_14, rlm5, ob, e2, I.n5, if_pos (i_le_rfl _)]
      unfold gdB
      rw [decide_eq_true ((hv_all _ _ _).mpr h)]
      rfl
    | succ j ih =>
      intro k fuel hk hf h
      obtain ⟨fu, rfl⟩ : ∃ fu, fuel = fu + 1 := ⟨fuel - 1, by omega⟩
      have hkn : k < cn (r.2 1) 5 := by omega
      rw [f_R_wins_14, rlm5, ob, e2, I.n5, if_neg (iN_nle hkn (by omega)), y18 (by omega), ob, (Z2 k hkn).1, iN_s]
      by_cases he : itM (frM (r.2 1)) (cn (r.2 1) 5) (owS (r.2 1) a g) w k = g
      · rw [if_pos he]
        refine ih (k + 1) fu (by omega) (by omega) fun i hi => ?_
        by_cases hik : i = k
        · rw [hik]; exact he
        · exact h i (by omega)
      · rw [if_neg he]
        unfold gdB
        rw [decide_eq_false fun q => he ((hv_all _ _ _).mp q k hkn)]
        rfl
  exact key _ 0 N (Nat.zero_add _) (by omega) fun i hi => absurd hi (Nat.not_lt_zero i)
/-- all told: all have it for ever -/
theorem gd_all (I : Inv m) (hg : nx g 32) : gdB m g w (iN (2 ^ cn m 5 - 1)) = true := by
  have h5 := I.b5
  have h0 : ∀ k, k < cn m 5 → owS m (iN (2 ^ cn m 5 - 1)) g k = g := fun k hk => by
    unfold owS
    have h := ev_all ⟨cn m 5, by omega⟩ ⟨k, by omega⟩
    dsimp only at h
    rw [if_pos hk, h, decide_eq_true hk, if_pos rfl]
  have hj : ∀ j, ∀ k, k < cn m 5 → itM (frM m) (cn m 5) (owS m (iN (2 ^ cn m 5 - 1)) g) j k = g := by
    intro j
    induction j with
    | zero => exact h0
    | succ j ih =>
      intro p hp
      show yrM (frM m) (cn m 5) (itM (frM m) (cn m 5) (owS m (iN (2 ^ cn m 5 - 1)) g) j) p = g
      unfold yrM
      rw [if_pos hp, ih p hp]
      obtain ⟨c, hc, ec⟩ := hg
      refine TkP.uniq (tkM_P _ _ _ ⟨c, hc, ec⟩) ⟨c, hc, ec, fun h hh => ?_, fun _ => rfl, fun q => absurd rfl q⟩
      by_cases hgh : iN h = g
      · rw [hgh]; exact Nat.le_refl _
      · refine Nat.le_trans (Nat.le_of_eq ?_) (Nat.zero_le _)
        refine Nat.eq_zero_of_not_pos fun hpos => ?_
        obtain ⟨i, h1, h2⟩ := (ctB_pos _ _).mp hpos
        rw [Bool.and_eq_true, decide_eq_true_eq, ih i h1] at h2
        exact hgh h2.2.symm
  unfold gdB
  exact decide_eq_true ((hv_all _ _ _).mpr (hj w))
theorem told_cl (hN : 20000 ≤ N) (hw : w ≤ 60) (hg : nx g 32) {R : Nat} (hR : selP (fun k => gdB (r.2 1) g w (iN k)) (2 ^ cn (r.2 1) 5 - 1) R) :
    ∀ (j s fuel : Nat) (ys : Nat → Nat) (M : Mem), s + j = cn (r.2 1) 5 → j < fuel → GS N x o ps ys M r → (∀ k, k < 2 ^ cn (r.2 1) 5 - 1 → gdB (r.2 1) g w (iN k) = true → s ≤ szN k) →
      ∃ K zs, f_CT_told_22 N x g (iN w) fuel (iN (2 ^ cn (r.2 1) 5 - 1)) (iN s) M = some (.inl (iN R), K) ∧ GS N x o ps zs K r := by
  intro j
  induction j with
  | zero =>
    intro s fuel ys M hs hf G hno
    obtain ⟨fu, rfl⟩ : ∃ fu, fuel = fu + 1 := ⟨fuel - 1, by omega⟩
    have h5 := G.I.b5
    refine ⟨M, ys, ?_, G⟩
    rw [f_CT_told_22, G.A.gN, ob, G.S.i0, ob, G.R.v5, G.I.n5, show s = cn (r.2 1) 5 by omega, if_pos (i_le_rfl _)]
    have : R = 2 ^ cn (r.2 1) 5 - 1 := by
      refine Classical.byContradiction fun hq => ?_
      have hlt : R < 2 ^ cn (r.2 1) 5 - 1 := by
        have := hR.1
        omega
      have h1 := hno R hlt hR.2.1
      have h2 := sz_all ⟨cn (r.2 1) 5, by omega⟩ ⟨R, by have := (pw_k h5).1; omega⟩ hlt
      dsimp only at h2
      omega
    rw [this]
  | succ j ih =>
    intro s fuel ys M hs hf G hno
    obtain ⟨fu, rfl⟩ : ∃ fu, fuel = fu + 1 := ⟨fuel - 1, by omega⟩
    have h5 := G.I.b5
    have hE := (pw_k h5).1
    rw [f_CT_told_22, G.A.gN, ob, G.S.i0, ob, G.R.v5, G.I.n5, if_neg (iN_nle (by omega) (by omega))]
    have key : ∀ (i k fuel : Nat) (ys : Nat → Nat) (M : Mem), k + i = 2 ^ cn (r.2 1) 5 - 1 → i < fuel → GS N x o ps ys M r → (∀ k', k' < k → gdB (r.2 1) g w (iN k') = true → s + 1 ≤ szN k') →
        ∃ K zs, f_CT_told_37 N x g (iN w) (f_CT_told_22 N x g (iN w) fu) fuel (iN (2 ^ cn (r.2 1) 5 - 1)) (iN s) (iN k) M = some (.inl (iN R), K) ∧ GS N x o ps zs K r := by
      intro i
      induction i with
      | zero =>
        intro k fuel ys M hk hf2 G hno2
        obtain ⟨fv, rfl⟩ : ∃ fv, fuel = fv + 1 := ⟨fuel - 1, by omega⟩
        rw [f_CT_told_37, if_pos (iN_yle (by omega) (by omega)), iN_s]
        exact ih (s + 1) fu ys M (by omega) (by omega) G fun k' hk' hg' => hno2 k' (by omega) hg'
      | succ i ih2 =>
        intro k fuel ys M hk hf2 G hno2
        obtain ⟨fv, rfl⟩ : ∃ fv, fuel = fv + 1 := ⟨fuel - 1, by omega⟩
        have hsz : szN k ≤ 10 := by unfold szN; omega
        rw [f_CT_told_37, if_neg (iN_nle (by omega) (by omega)), bitCount_eq (by omega), ob, iN_s]
        by_cases hs2 : szN k = s
        · rw [if_pos (by rw [hs2]), G.A.c, ob]
          obtain ⟨K, zs, c1, G1⟩ := wins_cl (N := N) G (by omega) hw hg (iN k)
          rw [c1, ob]
          dsimp only
          cases hgd : gdB (r.2 1) g w (iN k) with
          | true =>
            refine ⟨K, zs, ?_, G1⟩
            rw [if_neg (show ¬ b01 true = 0 by decide)]
            have : k = R := by
              refine selP.uniq ⟨by omega, hgd, fun k' hk' hg' => ?_⟩ hR
              rw [hs2]
              by_cases hkk : k' < k
              · exact Or.inl (hno2 k' hkk hg')
              · by_cases hkE : k' < 2 ^ cn (r.2 1) 5 - 1
                · have := hno k' hkE hg'
                  omega
                · rcases Nat.lt_or_ge s (szN k') with h | h
                  · exact Or.inl h
                  · refine absurd h (Nat.not_le.mpr ?_)
                    have hkE2 : k' = 2 ^ cn (r.2 1) 5 - 1 := by omega
                    have h7 : ∀ n : Fin 11, szN (2 ^ n.val - 1) = n.val := by decide +kernel
                    have h8 := h7 ⟨cn (r.2 1) 5, by omega⟩
                    dsimp only at h8
                    rw [hkE2, h8]
                    omega
            rw [this]
          | false =>
            rw [if_pos (show b01 false = 0 from rfl)]
            refine ih2 (k + 1) fv zs K (by omega) (by omega) G1 fun k' hk' hg' => ?_
            by_cases hkk : k' = k
            · rw [hkk, hgd] at hg'
              cases hg'
            · exact hno2 k' (by omega) hg'
        · rw [if_neg (iN_ne hs2 (by omega) (by omega))]
          refine ih2 (k + 1) fv ys M (by omega) (by omega) G fun k' hk' hg' => ?_
          by_cases hkk : k' = k
          · have := hno k' (by omega) hg'
            rw [hkk] at this ⊢
            omega
          · exact hno2 k' (by omega) hg'
    exact key (2 ^ cn (r.2 1) 5 - 1) 0 N ys M (Nat.zero_add _) (by omega) G fun k' hk' => absurd hk' (Nat.not_lt_zero k')
theorem told_md (I : Inv (r.2 1)) (hN : 20000 ≤ N) (hw : w ≤ 60) (hg : nx g 32) : ∃ R q, f_R_told_44 N g (iN w) N (-1) 0 r = some (iN R, q) ∧ Yq r q ∧ selP (fun k => gdB (r.2 1) g w (iN k)) (2 ^ cn (r.2 1) 5 - 1) R := by
  have h5 := I.b5
  obtain ⟨hE, hE0, hE1⟩ := pw_k h5
  refine lp_inv (F := fun fuel k (z : Int32 × Rho) => f_R_told_44 N g (iN w) fuel z.1 (iN k) z.2) (n := 2 ^ cn (r.2 1) 5) (P := fun k z => Yq r z.2 ∧ ((z.1 = -1 ∧ ∀ k', k' < k → gdB (r.2 1) g w (iN k') = false) ∨ ∃ c, c < k ∧ z.1 = iN c ∧ gdB (r.2 1) g w (iN c) = true ∧ ∀ k', k' < k → gdB (r.2 1) g w (iN k') = true → szN c < szN k' ∨ (szN c = szN k' ∧ c ≤ k'))) (Q := fun t => ∃ R q, t = some (iN R, q) ∧ Yq r q ∧ selP (fun k => gdB (r.2 1) g w (iN k)) (2 ^ cn (r.2 1) 5 - 1) R) (fun fuel z hz => ?_) (fun fuel k z hk hz => ?_) (2 ^ cn (r.2 1) 5) 0 (-1, r) N (by omega) (by omega) ⟨Yq.refl r, Or.inl ⟨rfl, fun k' hk' => absurd hk' (Nat.not_lt_zero k')⟩⟩
  · obtain ⟨s, h⟩ := hz
    rcases h with ⟨-, h2⟩ | ⟨c, h1, h2, h3, h4⟩
    · have := h2 (2 ^ cn (r.2 1) 5 - 1) (by omega)
      rw [gd_all I hg] at this
      cases this
    · refine ⟨c, z.2, ?_, s, by omega, h3, fun k hk => h4 k (by omega)⟩
      show f_R_told_44 N g (iN w) (fuel + 1) z.1 (iN (2 ^ cn (r.2 1) 5)) z.2 = _
      rw [f_R_told_44, rlm5, ob, s.em, I.n5, hE1, if_pos (i_le_rfl _), h2]
  · obtain ⟨s, h⟩ := hz
    have em : z.2.2 1 = r.2 1 := s.em
    have hsz : szN k ≤ 10 := by unfold szN; omega
    obtain ⟨q2, m2, s2⟩ := wins_md (r := z.2) (N := N) (w := w) (g := g) (by rw [em]; exact I) (by omega) hw hg (iN k)
    rw [em] at m2
    have e77 : ∀ f, f_R_told_77 N g (iN w) (f_R_told_44 N g (iN w) fuel) f (iN k) z.2 = f_R_told_44 N g (iN w) fuel (if gdB (r.2 1) g w (iN k) = true then iN k else f) (iN (k + 1)) q2 := fun f => by
      unfold f_R_told_77
      rw [m2, ob]
      dsimp only
      rw [iN_s]
      cases gdB (r.2 1) g w (iN k) with
      | true => rw [if_neg (show ¬ b01 true = 0 by decide), if_pos rfl]
      | false => rw [if_pos (show b01 false = 0 from rfl), if_neg (by decide)]
    rcases h with ⟨h1, h2⟩ | ⟨c, h1, h2, h3, h4⟩
    · refine ⟨(if gdB (r.2 1) g w (iN k) = true then iN k else z.1, q2), ?_, s.trans s2, ?_⟩
      · show f_R_told_44 N g (iN w) (fuel + 1) z.1 (iN k) z.2 = f_R_told_44 N g (iN w) fuel (if gdB (r.2 1) g w (iN k) = true then iN k else z.1) (iN (k + 1)) q2
        rw [f_R_told_44, rlm5, ob, em, I.n5, hE1, if_neg (iN_nle hk (by omega)), h1, if_pos rfl, e77]
      · dsimp only
        cases hgd : gdB (r.2 1) g w (iN k) with
        | true =>
          rw [if_pos rfl]
          refine Or.inr ⟨k, Nat.lt_succ_self k, rfl, hgd, fun k' hk' hg' => ?_⟩
          by_cases hkk : k' = k
          · rw [hkk]; exact Or.inr ⟨rfl, Nat.le_refl _⟩
          · rw [h2 k' (by omega)] at hg'
            cases hg'
        | false =>
          rw [if_neg (by decide)]
          refine Or.inl ⟨h1, fun k' hk' => ?_⟩
          by_cases hkk : k' = k
          · rw [hkk]; exact hgd
          · exact h2 k' (by omega)
    · have hsc : szN c ≤ 10 := by unfold szN; omega
      have e0 : f_R_told_44 N g (iN w) (fuel + 1) z.1 (iN k) z.2 = if iN (szN k) < iN (szN c) then f_R_told_77 N g (iN w) (f_R_told_44 N g (iN w) fuel) z.1 (iN k) z.2 else f_R_told_44 N g (iN w) fuel z.1 (iN (k + 1)) z.2 := by
        rw [f_R_told_44, rlm5, ob, em, I.n5, hE1, if_neg (iN_nle hk (by omega)), h2, if_neg (iN_m1 (by omega)), f_R_bits_eq (by omega) (by omega), ob, f_R_bits_eq (by omega) (by omega), ob, iN_s]
      by_cases hlt : szN k < szN c
      · refine ⟨(if gdB (r.2 1) g w (iN k) = true then iN k else z.1, q2), e0.trans ((if_pos (iN_ylt hlt (by omega))).trans (e77 _)), s.trans s2, Or.inr ?_⟩
        dsimp only
        cases hgd : gdB (r.2 1) g w (iN k) with
        | true =>
          rw [if_pos rfl]
          refine ⟨k, Nat.lt_succ_self k, rfl, hgd, fun k' hk' hg' => ?_⟩
          by_cases hkk : k' = k
          · rw [hkk]; exact Or.inr ⟨rfl, Nat.le_refl _⟩
          · have := h4 k' (by omega) hg'
            omega
        | false =>
          rw [if_neg (by decide)]
          refine ⟨c, by omega, h2, h3, fun k' hk' hg' => ?_⟩
          by_cases hkk : k' = k
          · rw [hkk, hgd] at hg'
            cases hg'
          · exact h4 k' (by omega) hg'
      · refine ⟨z, e0.trans (if_neg (iN_nlt (by omega) (by omega))), s, Or.inr ⟨c, by omega, h2, h3, fun k' hk' hg' => ?_⟩⟩
        by_cases hkk : k' = k
        · rw [hkk]
          omega
        · exact h4 k' (by omega) hg'
theorem op_told (G : GS N x o ps ys M r) (hN : 20000 ≤ N) : Both N x o (f_L_told N x a b o M) (f_R_told N a b r) := by
  have h5 := G.I.b5
  by_cases h : okR a 32
  · by_cases h2 : okI b 0 60
    · obtain ⟨w, -, h3, rfl⟩ := h2
      obtain ⟨c, hc, e⟩ := id h
      have hg : nx a 32 := ⟨c, hc, e⟩
      obtain ⟨R, q, m1, s1, hR⟩ := told_md (r := r_set r 0 0) (N := N) (w := w) (g := a) G.I hN h3 hg
      obtain ⟨K, zs, c1, G1⟩ := told_cl (N := N) (x := x) (o := o) (ps := ps) (r := r) hN h3 hg hR (cn (r.2 1) 5) 0 N ys M (Nat.zero_add _) (by omega) G fun k _ _ => Nat.zero_le _
      refine both_ok (v := iN R) ((G1.th 0).s0 s1.s0) ?_ ?_ ?_
      · rw [s1.1]
        exact th0 r 0
      · unfold f_L_told f_CT_told
        rw [G.A.c, ob, needG_y h, ob, sx_l, show f_CT_needNumber (iN w) 0 60 M = some (.inl (), M) from needN_y (lo := 0) (hi := 60) (by omega) h3 (by decide), ob, sx_l, G.A.gN, ob, G.S.c0, ob, f_Town_everybody_eq G.S G.R, ob, evS_eq G.I]
        rw [show f_CT_told_22 N x a (iN w) N (iN (2 ^ cn (r.2 1) 5 - 1)) 0 M = _ from c1, ob, sx_l]
        rfl
      · unfold f_R_told f_R_told_27
        rw [isCode_y h, ob, if_neg i1n, show f_R_isIn (iN w) 0 60 = some 1 from isInI_y (lo := 0) (hi := 60) (by omega) h3 (by decide), ob, if_neg i1n, th0, if_pos i00, m1]
    · refine both_ex (c := 2) (v := 0) (G.new.th 2) (by decide) (th0 r 2) ?_ ?_
      · unfold f_L_told f_CT_told
        rw [G.A.c, ob, needG_y h, ob, sx_l, show f_CT_needNumber b 0 60 M = some (.inr "java/lang/IllegalArgumentException", m_new M (0, 0)) from needN_n (lo := 0) (hi := 60) h2 (by decide) (by decide), ob, sx_r, ob, sx_r, if_neg (by decide), if_pos rfl]
      · unfold f_R_told f_R_told_27
        rw [isCode_y h, ob, if_neg i1n, show f_R_isIn b 0 60 = some 0 from isInI_n (lo := 0) (hi := 60) h2 (by decide) (by decide), ob, if_pos rfl, th0, if_neg i20]
  · refine both_ex (c := 1) (v := 0) (G.new.th 1) i1n (th0 r 1) ?_ ?_
    · unfold f_L_told f_CT_told
      rw [G.A.c, ob, needG_n h, ob, sx_r, ob, sx_r, if_pos rfl]
    · unfold f_R_told f_R_told_27
      rw [isCode_n h, ob, if_pos rfl, th0, if_neg i10]
end Td
