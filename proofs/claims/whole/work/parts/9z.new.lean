section Nw
variable {N a n : Nat} {M K L : Mem} {v : Int32}
theorem fill_eq (hk : m_kd M a = (1, n)) (hn : n ≤ 10000) (hN : n < N) (v : Int32) : ∃ K, f_Arrays_fill N a v M = some K ∧ (m_sz K = m_sz M ∧ m_kd K = m_kd M ∧ m_rv K = m_rv M ∧ m_lv K = m_lv M) ∧ (∀ b, b ≠ a → m_iv K b = m_iv M b) ∧ ∀ i, m_iv K a i = if i < n then v else m_iv M a i := by
  have key : ∀ (j k fuel : Nat) (K : Mem), k + j = n → j < fuel → (m_sz K = m_sz M ∧ m_kd K = m_kd M ∧ m_rv K = m_rv M ∧ m_lv K = m_lv M) → (∀ b, b ≠ a → m_iv K b = m_iv M b) → (∀ i, m_iv K a i = if i < k then v else m_iv M a i) → ∃ L, f_Arrays_fill_5 N a v fuel (iN k) (iN n) K = some L ∧ (m_sz L = m_sz M ∧ m_kd L = m_kd M ∧ m_rv L = m_rv M ∧ m_lv L = m_lv M) ∧ (∀ b, b ≠ a → m_iv L b = m_iv M b) ∧ ∀ i, m_iv L a i = if i < n then v else m_iv M a i := by
    intro j
    induction j with
    | zero =>
      intro k fuel K hk2 hf g1 g2 g3
      obtain ⟨fu, rfl⟩ : ∃ fu, fuel = fu + 1 := ⟨fuel - 1, by omega⟩
      obtain rfl : k = n := by omega
      exact ⟨K, by rw [f_Arrays_fill_5, if_pos (i_le_rfl _)], g1, g2, g3⟩
    | succ j ih =>
      intro k fuel K hk2 hf g1 g2 g3
      obtain ⟨fu, rfl⟩ : ∃ fu, fuel = fu + 1 := ⟨fuel - 1, by omega⟩
      rw [f_Arrays_fill_5, if_neg (iN_nle (by omega) (by omega)), ast_iN (k := k) (n := n) (by rw [g1.2.1]; exact hk) (by omega) (by omega), ob, iN_s]
      refine ih (k + 1) fu _ (by omega) (by omega) g1 (fun b hb => by rw [iv_ne hb, g2 b hb]) (fun i => ?_)
      rw [iv_same, up1_at, g3]
      by_cases h : i = k
      · rw [if_pos h, if_pos (by omega)]
      · rw [if_neg h]
        by_cases h2 : i < k
        · rw [if_pos h2, if_pos (by omega)]
        · rw [if_neg h2, if_neg (by omega)]
  unfold f_Arrays_fill
  have e : aln M a = some (iN n) := by
    unfold aln
    rw [hk]
    rfl
  rw [e, ob]
  exact key n 0 N M (by omega) hN ⟨rfl, rfl, rfl, rfl⟩ (fun _ _ => rfl) (fun i => by rw [if_neg (by omega)])
/-! more cells -/
theorem kd_new (M : Mem) (k : Nat × Nat) (b : Nat) : m_kd (m_new M k) b = if b = m_sz M then k else m_kd M b := rfl
theorem iv_new (M : Mem) (k : Nat × Nat) (b : Nat) : m_iv (m_new M k) b = if b = m_sz M then fun _ => 0 else m_iv M b := rfl
theorem rv_new (M : Mem) (k : Nat × Nat) (b : Nat) : m_rv (m_new M k) b = if b = m_sz M then fun _ => none else m_rv M b := rfl
theorem sz_new (M : Mem) (k : Nat × Nat) : m_sz (m_new M k) = m_sz M + 1 := rfl
/-- n cells more, the rest as it was -/
def Up (n : Nat) (M K : Mem) : Prop := m_sz K = m_sz M + n ∧ (∀ b, b < m_sz M → m_kd K b = m_kd M b ∧ m_iv K b = m_iv M b ∧ m_rv K b = m_rv M b) ∧ ∀ b, m_sz M + n ≤ b → m_kd K b = m_kd M b
theorem Up.trans {k : Nat} (h : Up n M K) (h2 : Up k K L) : Up (n + k) M L := by
  obtain ⟨a1, a2, a3⟩ := h
  obtain ⟨b1, b2, b3⟩ := h2
  refine ⟨by omega, fun b hb => ?_, fun b hb => ?_⟩
  · obtain ⟨c1, c2, c3⟩ := b2 b (by omega)
    obtain ⟨d1, d2, d3⟩ := a2 b hb
    exact ⟨c1.trans d1, c2.trans d2, c3.trans d3⟩
  · exact (b3 b (by omega)).trans (a3 b (by omega))
/-- a person as made -/
def NewP (K : Mem) (p : Nat) : Prop := (m_kd K p = (15, 0) ∧ m_rv K p 8 = some (p + 1) ∧ m_rv K p 9 = some (p + 2) ∧ m_kd K (p + 1) = (1, 10) ∧ m_kd K (p + 2) = (1, 10)) ∧ (∀ j, m_iv K p j = if j = 6 ∨ j = 7 then -1 else 0) ∧ (∀ k, m_iv K (p + 1) k = 0) ∧ ∀ k, k < 10 → m_iv K (p + 2) k = -1
theorem person_new (hN : 500 < N) : ∃ K, f_Person_init N (m_sz M) (m_new M (15, 0)) = some K ∧ Up 3 M K ∧ NewP K (m_sz M) := by
  unfold f_Person_init
  generalize hp : m_sz M = p
  have n1 : m_sz (m_new M (15, 0)) = p + 1 := congrArg (· + 1) hp
  have k0 : (m_kd (m_new M (15, 0)) p).1 = 10 + 5 := by rw [kd_new, hp, if_pos rfl]
  have k1 : (m_kd (m_setI (m_new M (15, 0)) p 6 (-1)) p).1 = 10 + 5 := k0
  rw [pI_k (ci := 5) k0, ob, pI_k (ci := 5) k1, ob, show nwI (m_setI (m_setI (m_new M (15, 0)) p 6 (-1)) p 7 (-1)) 10 10 = some (p + 1, m_new (m_setI (m_setI (m_new M (15, 0)) p 6 (-1)) p 7 (-1)) (1, 10)) from (nwI_k (n := 10) (B := 10) (by decide) (by decide)).trans (by rw [sz_setI, sz_setI, n1]), ob]
  dsimp only
  generalize hA : m_new (m_setI (m_setI (m_new M (15, 0)) p 6 (-1)) p 7 (-1)) (1, 10) = A
  have kA : (m_kd A p).1 = 10 + 5 := by
    rw [← hA, kd_new, sz_setI, sz_setI, n1, if_neg (by omega)]
    exact k0
  have nA : m_sz A = p + 2 := by rw [← hA, sz_new, sz_setI, sz_setI, n1]
  rw [pR_k (ci := 5) kA, ob, show nwI (m_setR A p 8 (some (p + 1))) 10 10 = some (p + 2, m_new (m_setR A p 8 (some (p + 1))) (1, 10)) from (nwI_k (n := 10) (B := 10) (by decide) (by decide)).trans (by rw [sz_setR, nA]), ob]
  dsimp only
  generalize hC : m_new (m_setR A p 8 (some (p + 1))) (1, 10) = C
  have kC : (m_kd C p).1 = 10 + 5 := by
    rw [← hC, kd_new, sz_setR, nA, if_neg (by omega)]
    exact kA
  have nC : m_sz C = p + 3 := by rw [← hC, sz_new, sz_setR, nA]
  rw [pR_k (ci := 5) kC, ob]
  have kD : (m_kd (m_setR C p 9 (some (p + 2))) p).1 = 10 + 5 := kC
  have rD : m_rv (m_setR C p 9 (some (p + 2))) p 9 = some (p + 2) := by rw [rv_setR, if_pos ⟨rfl, rfl⟩]
  have k2 : m_kd (m_setR C p 9 (some (p + 2))) (p + 2) = (1, 10) := by
    rw [kd_setR, ← hC, kd_new, sz_setR, nA, if_pos rfl]
  obtain ⟨K, f1, f2, f3, f4⟩ := fill_eq (N := N) k2 (by decide) (by omega) (-1)
  rw [gR_k (ci := 5) kD, rD, ob, f1, ob]
  have kd : ∀ b, m_kd K b = if b = p + 2 then (1, 10) else (if b = p + 1 then (1, 10) else (if b = p then (15, 0) else m_kd M b)) := fun b => by
    rw [f2.2.1, kd_setR, ← hC, kd_new, sz_setR, nA, kd_setR, ← hA, kd_new, sz_setI, sz_setI, n1, kd_setI, kd_setI, kd_new, hp]
  have iv : ∀ b, b ≠ p + 2 → m_iv K b = if b = p + 1 then fun _ => 0 else (if b = p then up1 (up1 (fun _ => 0) 6 (-1)) 7 (-1) else m_iv M b) := fun b hb => by
    rw [f3 b hb, iv_setR, ← hC, iv_new, sz_setR, nA, if_neg hb, iv_setR, ← hA, iv_new, sz_setI, sz_setI, n1]
    by_cases h1 : b = p + 1
    · rw [if_pos h1, if_pos h1]
    · rw [if_neg h1, if_neg h1]
      by_cases h2 : b = p
      · subst h2
        rw [if_pos rfl, iv_same, iv_same, iv_new, hp, if_pos rfl]
      · rw [if_neg h2, iv_ne h2, iv_ne h2, iv_new, hp, if_neg h2]
  have rv : ∀ b j, m_rv K b j = if b = p ∧ j = 9 then some (p + 2) else (if b = p + 2 then none else (if b = p ∧ j = 8 then some (p + 1) else (if b = p + 1 then none else (if b = p then none else m_rv M b j)))) := fun b j => by
    rw [f2.2.2.1, rv_setR, ← hC, rv_new, sz_setR, nA]
    by_cases h1 : b = p ∧ j = 9
    · rw [if_pos h1, if_pos h1]
    · rw [if_neg h1, if_neg h1]
      by_cases h2 : b = p + 2
      · rw [if_pos h2, if_pos h2]
      · rw [if_neg h2, if_neg h2, rv_setR]
        by_cases h3 : b = p ∧ j = 8
        · rw [if_pos h3, if_pos h3]
        · rw [if_neg h3, if_neg h3, ← hA, rv_new, sz_setI, sz_setI, n1]
          by_cases h4 : b = p + 1
          · rw [if_pos h4, if_pos h4]
          · rw [if_neg h4, if_neg h4, rv_setI, rv_setI, rv_new, hp]
            by_cases h5 : b = p
            · rw [if_pos h5, if_pos h5]
            · rw [if_neg h5, if_neg h5]
  refine ⟨K, rfl, ⟨?_, fun b hb => ⟨?_, ?_, ?_⟩, fun b hb => ?_⟩, ⟨?_, ?_, ?_, ?_, ?_⟩, fun j => ?_, fun k => ?_, fun k hk => ?_⟩
  · rw [f2.1, sz_setR, nC]; omega
  · rw [kd, if_neg (by omega), if_neg (by omega), if_neg (by omega)]
  · rw [iv b (by omega), if_neg (by omega), if_neg (by omega)]
  · funext j
    rw [rv, if_neg (by omega), if_neg (by omega), if_neg (by omega), if_neg (by omega), if_neg (by omega)]
  · rw [kd, if_neg (by omega), if_neg (by omega), if_neg (by omega)]
  · rw [kd, if_neg (by omega), if_neg (by omega), if_pos rfl]
  · rw [rv, if_neg (by omega), if_neg (by omega), if_pos ⟨rfl, rfl⟩]
  · rw [rv, if_pos ⟨rfl, rfl⟩]
  · rw [kd, if_neg (by omega), if_pos rfl]
  · rw [kd, if_pos rfl]
  · rw [iv p (by omega), if_neg (by omega), if_pos rfl, up1_at, up1_at]
    by_cases h7 : j = 7
    · rw [if_pos h7, if_pos (Or.inr h7)]
    · rw [if_neg h7]
      by_cases h6 : j = 6
      · rw [if_pos h6, if_pos (Or.inl h6)]
      · rw [if_neg h6, if_neg (fun w => w.elim h6 h7)]
  · rw [iv (p + 1) (by omega), if_pos rfl]
  · rw [f4, if_pos hk]
end Nw
