section Cu
variable {N x o t : Nat} {ps ys : Nat → Nat} {M K : Mem} {r q : Rho} {a b d e v : Int32} {n p s c : Nat} {m m2 : Nat → Int32}
/-! a tie is cut -/
def cuM (m : Nat → Int32) (n c k : Nat) : Nat → Int32 := fun j => if 372 + 2 * c ≤ j ∧ j < 372 + k then m (j + 2) else (if j = 6 then iN (n - 1) else m j)
theorem cuM_at (m : Nat → Int32) (n c k j : Nat) : cuM m n c k j = if 372 + 2 * c ≤ j ∧ j < 372 + k then m (j + 2) else (if j = 6 then iN (n - 1) else m j) := rfl
def cuS (c k : Nat) : Nat := if k < c then k else k + 1
theorem cuM_o (hn : n ≤ 24) (hn1 : 0 < n) {k : Nat} (h : k ≠ 6) (h2 : ¬ (372 ≤ k ∧ k < 420)) : cuM m n c (2 * (n - 1)) k = m k := by
  rw [cuM_at, if_neg (by omega), if_neg h]
theorem cuM_A (hn : n ≤ 24) {k : Nat} (hk : k + 1 < n) : tA (cuM m n c (2 * (n - 1))) k = tA m (cuS c k) := by
  unfold tA cuS
  rw [cuM_at]
  by_cases h : k < c
  · rw [if_pos h, if_neg (by omega), if_neg (by omega)]
  · rw [if_neg h, if_pos (by omega), show 372 + 2 * k + 2 = 372 + 2 * (k + 1) by omega]
theorem cuM_B (hn : n ≤ 24) {k : Nat} (hk : k + 1 < n) : tB (cuM m n c (2 * (n - 1))) k = tB m (cuS c k) := by
  unfold tB cuS
  rw [cuM_at]
  by_cases h : k < c
  · rw [if_pos h, if_neg (by omega), if_neg (by omega)]
  · rw [if_neg h, if_pos (by omega), show 372 + 2 * k + 1 + 2 = 372 + 2 * (k + 1) + 1 by omega]
theorem cuM_6 (hn : n ≤ 24) : cn (cuM m n c (2 * (n - 1))) 6 = n - 1 := by
  unfold cn
  rw [cuM_at, if_neg (by omega), if_pos rfl, iN_cl (by omega)]
/-- no two ties are of the same people -/
theorem tie_un (I : Inv m) {j k : Nat} (hj : j < cn m 6) (hk : k < cn m 6) (h : j ≠ k) (hp : tieOf m j p s ∨ tieOf m j s p) : ¬ (tieOf m k p s ∨ tieOf m k s p) := by
  intro hq
  have D := I.2.2.1.2.2
  by_cases hjk : j < k
  · have d := D j k hjk hk
    rcases hp with ⟨p1, p2⟩ | ⟨p1, p2⟩ <;> rcases hq with ⟨q1, q2⟩ | ⟨q1, q2⟩
    · exact d.1 ⟨p1.trans q1.symm, p2.trans q2.symm⟩
    · exact d.2 ⟨p1.trans q2.symm, p2.trans q1.symm⟩
    · exact d.2 ⟨p1.trans q2.symm, p2.trans q1.symm⟩
    · exact d.1 ⟨p1.trans q1.symm, p2.trans q2.symm⟩
  · have d := D k j (by omega) hj
    rcases hp with ⟨p1, p2⟩ | ⟨p1, p2⟩ <;> rcases hq with ⟨q1, q2⟩ | ⟨q1, q2⟩
    · exact d.1 ⟨q1.trans p1.symm, q2.trans p2.symm⟩
    · exact d.2 ⟨q1.trans p2.symm, q2.trans p1.symm⟩
    · exact d.2 ⟨q1.trans p2.symm, q2.trans p1.symm⟩
    · exact d.1 ⟨q1.trans p1.symm, q2.trans p2.symm⟩
theorem cu_IT (I : Inv m) (h6 : cn m 6 = n) (hc : c < n) : IT (cuM m n c (2 * (n - 1))) := by
  have hb : n ≤ 24 := by have := I.b6; omega
  have c5 : cn (cuM m n c (2 * (n - 1))) 5 = cn m 5 := cn_cg (cuM_o hb (by omega) (by decide) (by omega))
  have sl : ∀ k, k + 1 < n → cuS c k < n := fun k hk => by
    unfold cuS
    by_cases h : k < c
    · rw [if_pos h]; omega
    · rw [if_neg h]; omega
  have sm : ∀ j k, j < k → cuS c j < cuS c k := fun j k hk => by
    unfold cuS
    by_cases h : k < c
    · rw [if_pos h, if_pos (by omega)]; exact hk
    · rw [if_neg h]
      by_cases h2 : j < c
      · rw [if_pos h2]; omega
      · rw [if_neg h2]; omega
  refine ⟨⟨n - 1, by omega, ?_⟩, fun k hk => ?_, fun j k hj hk => ?_⟩
  · rw [cuM_at, if_neg (by omega), if_pos rfl]
  · rw [cuM_6 hb] at hk
    unfold tieOf
    rw [c5, cuM_A hb (by omega), cuM_B hb (by omega)]
    exact I.t (k := cuS c k) (by have := sl k (by omega); omega)
  · rw [cuM_6 hb] at hk
    rw [cuM_A hb (show k + 1 < n by omega), cuM_B hb (show k + 1 < n by omega), cuM_A hb (show j + 1 < n by omega), cuM_B hb (show j + 1 < n by omega)]
    exact I.2.2.1.2.2 _ _ (sm j k hj) (by have := sl k (by omega); omega)
theorem cu_td (I : Inv m) (h6 : cn m 6 = n) (hc : c < n) (hp : p < 10) (hs : s < 10) (ht : tieOf m c p s) {g k : Nat} (hg : g < 100) (hk : k < 100) : tdB (cuM m n c (2 * (n - 1))) g k = (tdB m g k && !(decide ((g = p ∧ k = s) ∨ (g = s ∧ k = p)))) := by
  have hb : n ≤ 24 := by have := I.b6; omega
  have e : (tdB (cuM m n c (2 * (n - 1))) g k = true) ↔ (tdB m g k = true ∧ ¬ ((g = p ∧ k = s) ∨ (g = s ∧ k = p))) := by
    rw [tdB_iff, tdB_iff, cuM_6 hb, h6]
    constructor
    · rintro ⟨i, hi, h⟩
      unfold tieOf at h
      rw [cuM_A hb (by omega), cuM_B hb (by omega)] at h
      have si : cuS c i < n ∧ cuS c i ≠ c := by
        unfold cuS
        by_cases h : i < c
        · rw [if_pos h]; omega
        · rw [if_neg h]; omega
      refine ⟨⟨cuS c i, si.1, h⟩, fun w => ?_⟩
      refine tie_un (p := p) (s := s) I (by omega) (by omega) (fun q => si.2 q.symm) (Or.inl ht) ?_
      rcases w with ⟨rfl, rfl⟩ | ⟨rfl, rfl⟩
      · exact h
      · exact h.symm
    · rintro ⟨⟨i, hi, h⟩, w⟩
      have hic : i ≠ c := by
        rintro rfl
        refine w ?_
        rcases h with ⟨h1, h2⟩ | ⟨h1, h2⟩
        · exact Or.inl ⟨((iN_inj (by omega) (by omega)).mp (ht.1.symm.trans h1)).symm, ((iN_inj (by omega) (by omega)).mp (ht.2.symm.trans h2)).symm⟩
        · exact Or.inr ⟨((iN_inj (by omega) (by omega)).mp (ht.2.symm.trans h2)).symm, ((iN_inj (by omega) (by omega)).mp (ht.1.symm.trans h1)).symm⟩
      refine ⟨if i < c then i else i - 1, ?_, ?_⟩
      · by_cases h : i < c
        · rw [if_pos h]; omega
        · rw [if_neg h]; omega
      · have es : cuS c (if i < c then i else i - 1) = i := by
          unfold cuS
          by_cases h : i < c
          · rw [if_pos h, if_pos h]
          · rw [if_neg h, if_neg (by omega)]; omega
        have lt : (if i < c then i else i - 1) + 1 < n := by
          by_cases h : i < c
          · rw [if_pos h]; omega
          · rw [if_neg h]; omega
        unfold tieOf
        rw [cuM_A hb lt, cuM_B hb lt, es]
        exact h
  rw [Bool.eq_iff_iff, e, Bool.and_eq_true, Bool.not_eq_true', decide_eq_false_iff_not]
/-- the rows close up -/
theorem cut_md (hn : n ≤ 24) (hN : 100 < N) (hc : c < n) : ∀ (j k fuel : Nat), k + j = 2 * (n - 1) → j < fuel → 2 * c ≤ k → f_R_cut_54 N a fuel (iN k) (setM r (cuM m n c k)) = some (iN (n - 1), setM r (cuM m n c (2 * (n - 1)))) := by
  intro j
  induction j with
  | zero =>
    intro k fuel hk hf h2
    obtain ⟨fu, rfl⟩ : ∃ fu, fuel = fu + 1 := ⟨fuel - 1, by omega⟩
    obtain rfl : k = 2 * (n - 1) := by omega
    have e6 : cuM m n c (2 * (n - 1)) 6 = iN (n - 1) := by rw [cuM_at, if_neg (by omega), if_pos rfl]
    rw [f_R_cut_54, rlm6, ob, setM_m, e6, show (2 : Int32) * iN (n - 1) = iN (2 * (n - 1)) by simp only [q0, q1, q2, q3, q4, q5, q6, q7, q8, q10, q20, q92, q172, q272, q372, q420, q900, iN_mul, iN_add], if_pos (i_le_rfl _), ob]
  | succ j ih =>
    intro k fuel hk hf h2
    obtain ⟨fu, rfl⟩ : ∃ fu, fuel = fu + 1 := ⟨fuel - 1, by omega⟩
    have e6 : cuM m n c k 6 = iN (n - 1) := by rw [cuM_at, if_neg (by omega), if_pos rfl]
    have e7 : cuM m n c k (372 + k + 2) = m (372 + k + 2) := by rw [cuM_at, if_neg (by omega), if_neg (by omega)]
    rw [f_R_cut_54, rlm6, ob, setM_m, e6, show (2 : Int32) * iN (n - 1) = iN (2 * (n - 1)) by simp only [q0, q1, q2, q3, q4, q5, q6, q7, q8, q10, q20, q92, q172, q272, q372, q420, q900, iN_mul, iN_add], if_neg (iN_nle (by omega) (by omega)), show (372 : Int32) + iN k + 2 = iN (372 + k + 2) by simp only [q0, q1, q2, q3, q4, q5, q6, q7, q8, q10, q20, q92, q172, q272, q372, q420, q900, iN_mul, iN_add], rld1 (by omega), ob, setM_m, e7, show (372 : Int32) + iN k = iN (372 + k) by simp only [q0, q1, q2, q3, q4, q5, q6, q7, q8, q10, q20, q92, q172, q272, q372, q420, q900, iN_mul, iN_add], rw1 (by omega), ob, setM_setM, setM_m, iN_s]
    have e8 : up1 (cuM m n c k) (372 + k) (m (372 + k + 2)) = cuM m n c (k + 1) := by
      funext i
      rw [up1_at, cuM_at, cuM_at]
      by_cases h : i = 372 + k
      · rw [if_pos h, if_pos (by omega), h]
      · rw [if_neg h]
        by_cases h3 : 372 + 2 * c ≤ i ∧ i < 372 + k
        · rw [if_pos h3, if_pos (show 372 + 2 * c ≤ i ∧ i < 372 + (k + 1) by omega)]
        · rw [if_neg h3, if_neg (show ¬ (372 + 2 * c ≤ i ∧ i < 372 + (k + 1)) by omega)]
    rw [e8]
    exact ih (k + 1) fu (by omega) (by omega) (by omega)
theorem cut_cl (S : Shape M t) (hn : n ≤ 24) (hN : 100 < N) (hc : c < n) (h6 : m_iv M t 5 = iN n) : ∀ (j k fuel : Nat) (K : Mem), k + j = n → j < fuel → c < k → (m_sz K = m_sz M ∧ m_kd K = m_kd M ∧ m_rv K = m_rv M ∧ m_lv K = m_lv M) → (∀ b, b ≠ t + 7 → b ≠ t + 8 → m_iv K b = m_iv M b) → (∀ i, m_iv K (t + 7) i = if c ≤ i ∧ i + 1 < k then m_iv M (t + 7) (i + 1) else m_iv M (t + 7) i) → (∀ i, m_iv K (t + 8) i = if c ≤ i ∧ i + 1 < k then m_iv M (t + 8) (i + 1) else m_iv M (t + 8) i) →
    ∃ L, f_Town_removeTie_57 N t a fuel (iN k) K = some L ∧ (m_sz L = m_sz M ∧ m_kd L = m_kd M ∧ m_rv L = m_rv M ∧ m_lv L = m_lv M) ∧ (∀ b, b ≠ t → b ≠ t + 7 → b ≠ t + 8 → m_iv L b = m_iv M b) ∧ (∀ j, j ≠ 5 → m_iv L t j = m_iv M t j) ∧ m_iv L t 5 = iN (n - 1) ∧ ∀ i, i + 1 < n → m_iv L (t + 7) i = m_iv M (t + 7) (cuS c i) ∧ m_iv L (t + 8) i = m_iv M (t + 8) (cuS c i) := by
  intro j
  induction j with
  | zero =>
    intro k fuel K hk hf hck g1 g2 g3 g4
    obtain ⟨fu, rfl⟩ : ∃ fu, fuel = fu + 1 := ⟨fuel - 1, by omega⟩
    obtain rfl : k = n := by omega
    have SK : Shape K t := S.of (fun b _ _ => by rw [g1.2.1]) (fun b j _ _ _ => by rw [g1.2.2.1])
    have hK : m_iv K t 5 = iN k := by rw [g2 t (by omega) (by omega)]; exact h6
    refine ⟨m_setI K t 5 (iN (k - 1)), ?_, g1, fun b h1 h2 h3 => by rw [iv_ne h1, g2 b h2 h3], fun j hj => by rw [iv_same, up1_ne hj, g2 t (by omega) (by omega)], by rw [iv_same, up1_same], fun i hi => ?_⟩
    · rw [f_Town_removeTie_57, SK.i0, ob, hK, if_pos (i_le_rfl _), ob, show iN k - 1 = iN (k - 1) from iN_sub (b := 1) (by omega), SK.p0, ob]
    · rw [iv_ne (by omega), iv_ne (by omega), g3, g4]
      unfold cuS
      by_cases h : i < c
      · rw [if_pos h, if_neg (by omega), if_neg (by omega)]
        exact ⟨rfl, rfl⟩
      · rw [if_neg h, if_pos (by omega), if_pos (by omega)]
        exact ⟨rfl, rfl⟩
  | succ j ih =>
    intro k fuel K hk hf hck g1 g2 g3 g4
    obtain ⟨fu, rfl⟩ : ∃ fu, fuel = fu + 1 := ⟨fuel - 1, by omega⟩
    have SK : Shape K t := S.of (fun b _ _ => by rw [g1.2.1]) (fun b j _ _ _ => by rw [g1.2.2.1])
    have hK : m_iv K t 5 = iN n := by rw [g2 t (by omega) (by omega)]; exact h6
    have S1 : Shape (m_setI K (t + 7) (k - 1) (m_iv K (t + 7) k)) t := SK.setI
    have e7 : m_iv K (t + 7) k = m_iv M (t + 7) k := by rw [g3, if_neg (by omega)]
    have e8 : m_iv K (t + 8) k = m_iv M (t + 8) k := by rw [g4, if_neg (by omega)]
    rw [f_Town_removeTie_57, SK.i0, ob, hK, if_neg (iN_nle (by omega) (by omega)), SK.g_who, ob, ob, SK.a7 (by omega), ob, show iN k - 1 = iN (k - 1) from iN_sub (b := 1) (by omega), SK.s7 (by omega), ob, S1.g_whom, ob, ob, S1.a8 (by omega), ob, S1.s8 (by omega), ob, iN_s]
    refine ih (k + 1) fu _ (by omega) (by omega) (by omega) g1 (fun b h1 h2 => by rw [iv_ne h2, iv_ne h1, g2 b h1 h2]) (fun i => ?_) (fun i => ?_)
    · rw [iv_ne (by omega), iv_same, up1_at, e7]
      by_cases h : i = k - 1
      · rw [if_pos h, if_pos (by omega), h, show k - 1 + 1 = k by omega]
      · rw [if_neg h, g3]
        by_cases h2 : c ≤ i ∧ i + 1 < k
        · rw [if_pos h2, if_pos (by omega)]
        · rw [if_neg h2, if_neg (by omega)]
    · rw [iv_same, up1_at, iv_ne (by omega), e8]
      by_cases h : i = k - 1
      · rw [if_pos h, if_pos (by omega), h, show k - 1 + 1 = k by omega]
      · rw [if_neg h, g4]
        by_cases h2 : c ≤ i ∧ i + 1 < k
        · rw [if_pos h2, if_pos (by omega)]
        · rw [if_neg h2, if_neg (by omega)]
theorem removeTie_eq (S : Shape M t) (I : Inv m) (R : TRel M t m) (hN : 100 < N) (h6 : cn m 6 = n) (hc : c < n) {B : Nat} (hB : t + 41 ≤ B) : ∃ K, f_Town_removeTie N t (iN c) M = some K ∧ Fr t 41 B M K ∧ Inv (cuM m n c (2 * (n - 1))) ∧ TRel K t (cuM m n c (2 * (n - 1))) := by
  have hb : n ≤ 24 := by have := I.b6; omega
  have hb5 := I.b5
  obtain ⟨p, s, hp, hs, hps, ht⟩ := I.t (k := c) (by omega)
  have hp2 : p < 10 := by omega
  have hs2 : s < 10 := by omega
  obtain ⟨E1, E2⟩ := R.E c (by omega)
  have m6 : m_iv M t 5 = iN n := by rw [R.v6, I.n6, h6]
  generalize hu : (m_iv M (t + 11 + 3 * p) 5 &&& (((1 : Int32) <<< (iN s &&& 31)) ^^^ (-1))) = u
  generalize hw : (m_iv M (t + 11 + 3 * s) 5 &&& (((1 : Int32) <<< (iN p &&& 31)) ^^^ (-1))) = w
  have S1 : Shape (m_setI M (t + 11 + 3 * p) 5 u) t := S.setI
  have S2 : Shape (m_setI (m_setI M (t + 11 + 3 * p) 5 u) (t + 11 + 3 * s) 5 w) t := S1.setI
  obtain ⟨K, k1, k2, k3, k4, k5, k6⟩ := cut_cl (a := iN c) (N := N) S2 hb hN hc (by rw [iv_ne (by omega), iv_ne (by omega)]; exact m6) (n - (c + 1)) (c + 1) N _ (by omega) (by omega) (by omega) ⟨rfl, rfl, rfl, rfl⟩ (fun _ _ _ => rfl) (fun i => by rw [if_neg (by omega)]) (fun i => by rw [if_neg (by omega)])
  have hT := cu_IT (c := c) I h6 hc
  have I2 := tie_I I (fun k => cuM_o hb (by omega)) hT
  have kb : ∀ b, b < t ∨ t + 41 ≤ b → m_iv K b = m_iv M b := fun b h => by rw [k3 b (by omega) (by omega) (by omega), iv_ne (by omega), iv_ne (by omega)]
  refine ⟨K, ?_, Fr.of k2 kb hB, I2, tie_T R I (fun k => cuM_o hb (by omega)) ?_ (fun j hj => ?_) (fun k hk => ?_) (fun g j hg hj => ?_) (fun g hg => ?_) (fun g hg h9 => ?_) (fun b h1 h2 h3 h4 h5 h9 => ?_)⟩
  · unfold f_Town_removeTie
    rw [S.g_who, ob, S.a7 (by omega), ob, E1, ht.1, S.g_whom, ob, S.a8 (by omega), ob, E2, ht.2, S.g_people, ob, S.g_person hp2, ob, S.iP hp2, ob, hu, S.pP hp2, ob, S1.g_people, ob, S1.g_person hs2, ob, S1.iP hs2, ob, iv_ne (by omega), hw, S1.pP hs2, ob, iN_s]
    exact k1
  · rw [k5]
    rw [cuM_at, if_neg (by omega), if_pos rfl]
  · rw [k4 j hj, iv_ne (by omega), iv_ne (by omega)]
  · rw [cuM_6 hb] at hk
    rw [cuM_A hb (by omega), cuM_B hb (by omega), (k6 k (by omega)).1, (k6 k (by omega)).2, iv_ne (by omega), iv_ne (by omega), iv_ne (by omega), iv_ne (by omega)]
    refine R.E _ ?_
    unfold cuS
    by_cases h : k < c
    · rw [if_pos h]; omega
    · rw [if_neg h]; omega
  · rw [k3 _ (by omega) (by omega) (by omega), iv_setI, if_neg (fun w => hj w.2), iv_setI, if_neg (fun w => hj w.2)]
  · rw [k3 _ (by omega) (by omega) (by omega), iv_setI, iv_setI, ← hu, ← hw, R.q5 I hs, R.q5 I hp, R.q5 I hg]
    by_cases h1 : g = s
    · subst h1
      rw [if_pos ⟨rfl, rfl⟩]
      refine ib_ext fun k hk => ?_
      rw [ib_and, ib_not _ hk, ib_tdS I (by omega) hk, ib_shl (by omega), ib_tdS I2 (by omega) hk, cu_td I h6 hc hp2 hs2 ht (by omega) (by omega)]
      refine congrArg _ (congrArg _ (decide_eq_decide.mpr ?_))
      omega
    · rw [if_neg (by omega)]
      by_cases h2 : g = p
      · subst h2
        rw [if_pos ⟨rfl, rfl⟩]
        refine ib_ext fun k hk => ?_
        rw [ib_and, ib_not _ hk, ib_tdS I (by omega) hk, ib_shl (by omega), ib_tdS I2 (by omega) hk, cu_td I h6 hc hp2 hs2 ht (by omega) (by omega)]
        refine congrArg _ (congrArg _ (decide_eq_decide.mpr ?_))
        omega
      · rw [if_neg (by omega)]
        refine ib_ext fun k hk => ?_
        rw [ib_tdS I (by omega) hk, ib_tdS I2 (by omega) hk, cu_td I h6 hc hp2 hs2 ht (by omega) (by omega), decide_eq_false (by omega), Bool.not_false, Bool.and_true]
  · rw [k3 _ (by omega) (by omega) (by omega), iv_ne (by omega), iv_ne (by omega)]
  · have := h9 p (by omega)
    have := h9 s (by omega)
    rw [k3 _ (by omega) (by omega) (by omega), iv_ne (by omega), iv_ne (by omega)]
theorem op_cut (G : GS N x o ps ys M r) (hN : 20000 ≤ N) : Both N x o (f_L_cut N x a o M) (f_R_cut N a r) := by
  have h6 := G.I.b6
  by_cases h : okR a (cn (r.2 1) 6)
  · have e1 := needT_y G h
    have e2 := isIn_y h (by omega)
    obtain ⟨c, hc, rfl⟩ := h
    obtain ⟨K1, qa, ps2, c1, m1, G1, em, et⟩ := remember (G.th 0) hN
    have em : qa.2 1 = r.2 1 := em
    have n6 : cn (qa.2 1) 6 = cn (r.2 1) 6 := by rw [em]
    generalize hn : cn (r.2 1) 6 = n at *
    obtain ⟨K2, c2, F, I2, R2⟩ := removeTie_eq (N := N) (B := x + 628) G1.S G1.I G1.R (by omega) n6 hc (by omega)
    have hn1 : 0 < n := by omega
    have S2 : Shape K2 (x + 2) := F.shape G1.S
    have G2 : GS N x o ps2 ys K2 (setM qa (cuM (qa.2 1) n c (2 * (n - 1)))) :=
      G1.town F R2 I2 (cuM_o h6 hn1 (by decide) (by omega)) (cuM_o h6 hn1 (by decide) (by omega)) (fun k hk => cuM_o h6 hn1 (by omega) (by omega)) ⟨⟨rfl, rfl, rfl, rfl⟩, rfl, rfl, rfl, rfl, id⟩
    have e6 : cuM (qa.2 1) n c (2 * (n - 1)) 6 = iN (n - 1) := by rw [cuM_at, if_neg (by omega), if_pos rfl]
    refine both_ok (v := iN (n - 1)) G2 (et.trans (th0 r 0)) ?_ ?_
    · unfold f_L_cut f_CT_cut
      rw [G.A.c, ob, ob, e1, ob, sx_l, G.A.c, ob, c1, ob, G1.A.gN, ob, G1.S.c0, ob, c2, ob, G2.A.gN, ob, S2.i0, ob, R2.v6, e6, ob, sx_l]
      rfl
    · unfold f_R_cut f_R_cut_23
      have w6 : qa.2 1 6 = iN n := by rw [em, G.I.n6, hn]
      have st : up1 (qa.2 1) 6 (iN (n - 1)) = cuM (qa.2 1) n c (2 * c) := by
        funext i
        rw [up1_at, cuM_at, if_neg (show ¬ (372 + 2 * c ≤ i ∧ i < 372 + 2 * c) by omega)]
      rw [rlm6, ob, G.I.n6, hn, e2, ob, if_neg i1n, th0, if_pos i00, m1, ob, rlm6, ob, w6, show iN n - 1 = iN (n - 1) from iN_sub (b := 1) (by omega), wrm6, ob, show (2 : Int32) * iN c = iN (2 * c) by simp only [q0, q1, q2, q3, q4, q5, q6, q7, q8, q10, q20, q92, q172, q272, q372, q420, q900, iN_mul, iN_add], st]
      exact cut_md h6 (by omega) hc (2 * (n - 1) - 2 * c) (2 * c) N (by omega) (by omega) (by omega)
  · refine both_ex (c := 1) (v := 0) (G.new.th 1) i1n (th0 r 1) ?_ ?_
    · unfold f_L_cut f_CT_cut
      rw [G.A.c, ob, ob, needT_n G h, ob, sx_r, ob, sx_r, if_pos rfl]
    · unfold f_R_cut f_R_cut_23
      rw [rlm6, ob, G.I.n6, isIn_n h (by omega), ob, if_pos rfl, th0, if_neg i10]
end Cu
