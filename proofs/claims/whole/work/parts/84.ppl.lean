/-! people, one by one -/
theorem anyB_cg {f g : Nat → Bool} {n : Nat} (h : ∀ k, k < n → f k = g k) : anyB f n = anyB g n := by
  induction n with
  | zero => rfl
  | succ n ih =>
    show (anyB f n || f n) = (anyB g n || g n)
    rw [ih fun k hk => h k (by omega), h n (by omega)]
theorem setB_cg {f g : Nat → Bool} {n : Nat} (h : ∀ k, k < n → f k = g k) : setB f n = setB g n := by
  induction n with
  | zero => rfl
  | succ n ih =>
    show (if f n = true then setB f n ||| _ else setB f n) = (if g n = true then setB g n ||| _ else setB g n)
    rw [ih fun k hk => h k (by omega), h n (by omega)]
theorem cn_cg {m m2 : Nat → Int32} {j : Nat} (h : m2 j = m j) : cn m2 j = cn m j := congrArg Int32.toNatClampNeg h
section Pp
variable {M K : Mem} {t p o q x y : Nat} {m m2 : Nat → Int32}
theorem tdB_cg (h6 : cn m 6 ≤ 24) (hm : ∀ k, k = 6 ∨ (372 ≤ k ∧ k < 420) → m2 k = m k) (a b : Nat) : tdB m2 a b = tdB m a b := by
  unfold tdB
  rw [cn_cg (hm 6 (Or.inl rfl))]
  refine anyB_cg fun k hk => ?_
  unfold tA tB
  rw [hm (372 + 2 * k) (by omega), hm (372 + 2 * k + 1) (by omega)]
theorem tdS_cg (h6 : cn m 6 ≤ 24) (hm : ∀ k, k = 5 ∨ k = 6 ∨ (372 ≤ k ∧ k < 420) → m2 k = m k) (a : Nat) : tdS m2 a = tdS m a := by
  unfold tdS
  rw [cn_cg (hm 5 (Or.inl rfl))]
  exact setB_cg fun k _ => tdB_cg h6 (fun j hj => hm j (Or.inr hj)) a k
theorem PRel.mk (h : PRel M t m q) (hq : q < 10) (hM : ∀ b, t + 11 + 3 * q ≤ b → b ≤ t + 13 + 3 * q → m_iv K b = m_iv M b) (h5 : cn m2 5 = cn m 5) (hj : ∀ j, j < 8 → pC m2 q j = pC m q j) (ho : ∀ o, o < 10 → mt m2 q o = mt m q o ∧ swC m2 q o = swC m q o) (ht : tdS m2 q = tdS m q) : PRel K t m2 q := by
  unfold PRel at h ⊢
  rw [hM (t + 11 + 3 * q) (by omega) (by omega), hM (t + 12 + 3 * q) (by omega) (by omega), hM (t + 13 + 3 * q) (by omega) (by omega), h5, hj 0 (by decide), hj 1 (by decide), hj 2 (by decide), hj 3 (by decide), hj 4 (by decide), hj 6 (by decide), hj 7 (by decide), ht]
  obtain ⟨h1, h2⟩ := h
  refine ⟨fun h9 => ?_, h2⟩
  obtain ⟨a, b, c, d, e⟩ := h1 h9
  refine ⟨a, b, c, d, fun o hoo => ?_⟩
  rw [(ho o hoo).1, (ho o hoo).2]
  exact e o hoo
theorem PRel.cg (h : PRel M t m q) (hq : q < 10) (h6 : cn m 6 ≤ 24) (hM : ∀ b, t + 11 + 3 * q ≤ b → b ≤ t + 13 + 3 * q → m_iv K b = m_iv M b) (hm : ∀ k, k = 5 ∨ k = 6 ∨ (92 ≤ k ∧ k < 420) → m2 k = m k) : PRel K t m2 q := by
  refine h.mk hq hM (cn_cg (hm 5 (by omega))) (fun j hj => hm _ (by omega)) (fun o ho => ⟨hm _ (by omega), hm _ (by omega)⟩) (tdS_cg h6 (fun k hk => hm k (by omega)) q)
theorem learn_P (S : Shape M t) (hP : ∀ q, q < 10 → PRel M t m q) (h5 : cn m 5 ≤ 10) (h6 : cn m 6 ≤ 24) (hp : p < cn m 5) (ho : o < 10) (d : Int32) :
    ∃ N, f_Person_learn (t + 11 + 3 * p) (iN o) d M = some N ∧ Shape N t ∧ (m_sz N = m_sz M ∧ m_kd N = m_kd M ∧ m_rv N = m_rv M ∧ m_lv N = m_lv M) ∧ (∀ b, b < t + 11 ∨ t + 41 ≤ b → m_iv N b = m_iv M b) ∧ ∀ q, q < 10 → PRel N t (seM m p o d) q := by
  have hp2 : p < 10 := by omega
  obtain ⟨N, h1, h2, h3, h4, h7, h8⟩ := f_Person_learn_eq S hp2 ho d
  have c5 : cn (seM m p o d) 5 = cn m 5 := cn_cg (seM_out hp2 ho (Or.inl (by decide)))
  have ct : ∀ q, tdS (seM m p o d) q = tdS m q := tdS_cg h6 fun k hk => seM_out hp2 ho (by omega)
  refine ⟨N, h1, S.of (fun b _ _ => by rw [h2.2.1]) (fun b j _ _ _ => by rw [h2.2.2.1]), h2, fun b hb => h3 b (by omega) (by omega) (by omega), fun q hq => ?_⟩
  by_cases hqp : q = p
  · subst hqp
    obtain ⟨a, -⟩ := hP q hq
    obtain ⟨⟨a0, a1, a2, a3⟩, a4, a5, ⟨a6, a7⟩, a8⟩ := a hp
    refine ⟨fun _ => ⟨⟨?_, ?_, ?_, ?_⟩, ?_, ?_, ⟨?_, ?_⟩, fun x hx => ⟨?_, ?_⟩⟩, fun h9 => ?_⟩
    · rw [h8, seM_rest hp2 ho (by omega), up1_ne (by decide), up1_ne (by decide), up1_ne (by decide), a0]
    · rw [h8, seM_own hp2 ho, up1_ne (by decide), up1_ne (by decide), up1_same, a1, a6, a7]
    · rw [h8, seM_rest hp2 ho (by omega), up1_ne (by decide), up1_ne (by decide), up1_ne (by decide), a2]
    · rw [h8, seM_rest hp2 ho (by omega), up1_ne (by decide), up1_ne (by decide), up1_ne (by decide), a3]
    · rw [h8, seM_rest hp2 ho (by omega), up1_ne (by decide), up1_ne (by decide), up1_ne (by decide), a4]
    · rw [h8, ct, up1_ne (by decide), up1_ne (by decide), up1_ne (by decide), a5]
    · rw [h8, seM_lat hp2 ho, up1_same]
    · rw [h8, seM_bef hp2 ho, up1_ne (by decide), up1_same, a6]
    · rw [h4, seM_mt hp2 ho hp2 hx, up1_at, (a8 o ho).1, (a8 x hx).1]
      by_cases hxo : x = o
      · rw [if_pos hxo, if_pos ⟨rfl, hxo⟩]
      · rw [if_neg hxo, if_neg fun q => hxo q.2]
    · rw [h7, seM_sw hp2 ho hp2 hx, up1_at, (a8 x hx).2]
      by_cases hxo : x = o
      · rw [if_pos hxo, if_pos ⟨rfl, hxo⟩]
      · rw [if_neg hxo, if_neg fun q => hxo q.2]
    · rw [c5] at h9
      omega
  · refine (hP q hq).mk hq (fun b hb1 hb2 => h3 b (by omega) (by omega) (by omega)) c5 (fun j hj => seM_oth hp2 ho hq hj hqp) (fun x hx => ⟨?_, ?_⟩) (ct q)
    · rw [seM_mt hp2 ho hq hx, if_neg fun q => hqp q.1]
    · rw [seM_sw hp2 ho hq hx, if_neg fun q => hqp q.1]
theorem clM_out {dx dy : Int32} (hx : x < 10) (hy : y < 10) {k : Nat} (h : k < 92 ∨ 172 ≤ k) : clM m x y dx dy k = m k := by
  unfold clM
  by_cases hc : (pC m x 4 = 0 ∧ pC m y 4 = 0) ∨ dx >>> (3 &&& 31) = 0 ∨ dy >>> (3 &&& 31) = 0
  · rw [if_pos hc]
  · rw [if_neg hc, up1_ne (by omega), up1_ne (by omega)]
theorem cold_P (S : Shape M t) (hP : ∀ q, q < 10 → PRel M t m q) (h5 : cn m 5 ≤ 10) (h6 : cn m 6 ≤ 24) (hx : x < cn m 5) (hy : y < cn m 5) (dx dy : Int32) :
    ∃ N, f_Town_passColdOn (t + 11 + 3 * x) (t + 11 + 3 * y) dx dy M = some N ∧ Shape N t ∧ (m_sz N = m_sz M ∧ m_kd N = m_kd M ∧ m_rv N = m_rv M ∧ m_lv N = m_lv M) ∧ (∀ b, b < t + 11 ∨ t + 41 ≤ b → m_iv N b = m_iv M b) ∧ ∀ q, q < 10 → PRel N t (clM m x y dx dy) q := by
  have hx2 : x < 10 := by omega
  have hy2 : y < 10 := by omega
  have cx : m_iv M (t + 11 + 3 * x) 4 = pC m x 4 := ((hP x hx2).1 hx).2.1
  have cy : m_iv M (t + 11 + 3 * y) 4 = pC m y 4 := ((hP y hy2).1 hy).2.1
  have same : (pC m x 4 = 0 ∧ pC m y 4 = 0) ∨ dx >>> (3 &&& 31) = 0 ∨ dy >>> (3 &&& 31) = 0 → Shape M t ∧ (m_sz M = m_sz M ∧ m_kd M = m_kd M ∧ m_rv M = m_rv M ∧ m_lv M = m_lv M) ∧ (∀ b, b < t + 11 ∨ t + 41 ≤ b → m_iv M b = m_iv M b) ∧ ∀ q, q < 10 → PRel M t (clM m x y dx dy) q := fun hc =>
    ⟨S, ⟨rfl, rfl, rfl, rfl⟩, fun _ _ => rfl, by
      unfold clM
      rw [if_pos hc]
      exact hP⟩
  have go : ¬ (pC m x 4 = 0 ∧ pC m y 4 = 0) → dx >>> (3 &&& 31) ≠ 0 → dy >>> (3 &&& 31) ≠ 0 → ∃ N, f_Town_passColdOn_40 (t + 11 + 3 * x) (t + 11 + 3 * y) dx dy M = some N ∧ Shape N t ∧ (m_sz N = m_sz M ∧ m_kd N = m_kd M ∧ m_rv N = m_rv M ∧ m_lv N = m_lv M) ∧ (∀ b, b < t + 11 ∨ t + 41 ≤ b → m_iv N b = m_iv M b) ∧ ∀ q, q < 10 → PRel N t (clM m x y dx dy) q := by
    intro n1 n2 n3
    unfold f_Town_passColdOn_40
    have S2 : Shape (m_setI M (t + 11 + 3 * x) 4 1) t := S.setI
    rw [S.zP hx2 4 (Or.inr rfl), ob, S2.zP hy2 4 (Or.inr rfl), ob]
    refine ⟨_, rfl, S2.setI, ⟨rfl, rfl, rfl, rfl⟩, fun b hb => by rw [iv_ne (by omega), iv_ne (by omega)], fun q hq => ?_⟩
    have hc : ¬ ((pC m x 4 = 0 ∧ pC m y 4 = 0) ∨ dx >>> (3 &&& 31) = 0 ∨ dy >>> (3 &&& 31) = 0) := fun h => h.elim n1 (fun h => h.elim n2 n3)
    have c5 : cn (clM m x y dx dy) 5 = cn m 5 := cn_cg (clM_out hx2 hy2 (Or.inl (by decide)))
    have ct : tdS (clM m x y dx dy) q = tdS m q := tdS_cg h6 (fun k hk => clM_out hx2 hy2 (by omega)) q
    have hmt : ∀ o, o < 10 → mt (clM m x y dx dy) q o = mt m q o ∧ swC (clM m x y dx dy) q o = swC m q o := fun o ho => ⟨clM_out hx2 hy2 (by omega), clM_out hx2 hy2 (by omega)⟩
    have hpc : ∀ j, j < 8 → pC (clM m x y dx dy) q j = if j = 4 ∧ (q = x ∨ q = y) then 1 else pC m q j := by
      intro j hj
      unfold clM pC
      unfold pC at hc
      rw [if_neg hc, up1_at, up1_at]
      by_cases h1 : j = 4 ∧ (q = x ∨ q = y)
      · rw [if_pos h1]
        rcases h1.2 with h | h
        · by_cases h2 : 92 + 8 * q + j = 92 + 8 * y + 4
          · rw [if_pos h2]
          · rw [if_neg h2, if_pos (by omega)]
        · rw [if_pos (by omega)]
      · rw [if_neg h1, if_neg (by omega), if_neg (by omega)]
    by_cases hqq : q = x ∨ q = y
    · have hq5 : q < cn m 5 := by omega
      obtain ⟨⟨a0, a1, a2, a3⟩, a4, a5, ⟨a6, a7⟩, a8⟩ := (hP q hq).1 hq5
      have r0 : ∀ j, j ≠ 4 → m_iv (m_setI (m_setI M (t + 11 + 3 * x) 4 1) (t + 11 + 3 * y) 4 1) (t + 11 + 3 * q) j = m_iv M (t + 11 + 3 * q) j := fun j hj => by rw [iv_setI, if_neg (fun h => hj h.2), iv_setI, if_neg (fun h => hj h.2)]
      refine ⟨fun _ => ⟨⟨?_, ?_, ?_, ?_⟩, ?_, ?_, ⟨?_, ?_⟩, fun o ho => ⟨?_, ?_⟩⟩, fun h9 => ?_⟩
      · rw [r0 0 (by decide), hpc 0 (by decide), if_neg (by omega), a0]
      · rw [r0 1 (by decide), hpc 1 (by decide), if_neg (by omega), a1]
      · rw [r0 2 (by decide), hpc 2 (by decide), if_neg (by omega), a2]
      · rw [r0 3 (by decide), hpc 3 (by decide), if_neg (by omega), a3]
      · rw [hpc 4 (by decide), if_pos ⟨rfl, hqq⟩, iv_setI, iv_setI]
        by_cases h2 : t + 11 + 3 * q = t + 11 + 3 * y ∧ 4 = 4
        · rw [if_pos h2]
        · rw [if_neg h2, if_pos (by omega)]
      · rw [r0 5 (by decide), ct, a5]
      · rw [r0 6 (by decide), hpc 6 (by decide), if_neg (by omega), a6]
      · rw [r0 7 (by decide), hpc 7 (by decide), if_neg (by omega), a7]
      · rw [iv_ne (by omega), iv_ne (by omega), (hmt o ho).1, (a8 o ho).1]
      · rw [iv_ne (by omega), iv_ne (by omega), (hmt o ho).2, (a8 o ho).2]
      · rw [c5] at h9
        omega
    · refine (hP q hq).mk hq (fun b hb1 hb2 => by rw [iv_ne (by omega), iv_ne (by omega)]) c5 (fun j hj => ?_) hmt ct
      rw [hpc j hj, if_neg fun h => hqq h.2]
  unfold f_Town_passColdOn
  rw [show f_Manners_kindOf dx = some (dx >>> (3 &&& 31)) from rfl, show f_Manners_kindOf dy = some (dy >>> (3 &&& 31)) from rfl, ob]
  by_cases n2 : dx >>> (3 &&& 31) = 0
  · rw [if_pos n2]
    exact ⟨M, rfl, same (Or.inr (Or.inl n2))⟩
  · rw [if_neg n2, ob]
    by_cases n3 : dy >>> (3 &&& 31) = 0
    · rw [if_pos n3]
      exact ⟨M, rfl, same (Or.inr (Or.inr n3))⟩
    · rw [if_neg n3]
      unfold f_Town_passColdOn_19
      rw [if_pos rfl, S.iP hx2, ob, S.iP hy2, ob, cx, cy]
      by_cases c1 : pC m x 4 = 0
      · rw [if_pos c1]
        by_cases c2 : pC m y 4 = 0
        · rw [if_pos c2]
          exact ⟨M, rfl, same (Or.inl ⟨c1, c2⟩)⟩
        · rw [if_neg c2]
          exact go (fun h => c2 h.2) n2 n3
      · rw [if_neg c1]
        exact go (fun h => c1 h.1) n2 n3
end Pp
