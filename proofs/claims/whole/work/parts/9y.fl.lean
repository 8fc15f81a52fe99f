section Fl
variable {a k j B : Nat} {M K : Mem}
/-- the model's object while it is made: k rows are there -/
def PZ (a k : Nat) (M : Mem) : Prop := m_sz M = a + 1 + k ∧ (m_kd M a).1 = 21 ∧ ∀ j, 0 < r_off j → r_off j ≤ k → m_rv M a j = some (a + r_off j) ∧ m_kd M (a + r_off j) = (1, r_len j)
theorem nwI_k {n : Nat} (h : n ≤ B) (hn : n < 2147483648) : nwI M B (iN n) = some (m_sz M, m_new M (1, n)) := by
  unfold nwI
  rw [if_pos ⟨iN_nn hn, by rw [iN_cl hn]; exact h⟩, iN_cl hn]
theorem pz_elim {β : Type} {f : Mem → Option β} {w : β} (h : PZ a k M) (hj : r_off j = k + 1) (hB : r_len j ≤ B) (e : ((nwI M B (iN (r_len j))).bind fun z => (pR z.2 11 a j z.1).bind f) = some w) : ∃ K, PZ a (k + 1) K ∧ f K = some w := by
  obtain ⟨h1, h2, h3⟩ := h
  have hl := r_len_le j
  rw [nwI_k hB (by omega), ob] at e
  have hk : (m_kd (m_new M (1, r_len j)) a).1 = 10 + 11 := by
    show (if a = m_sz M then (1, r_len j) else m_kd M a).1 = 21
    rw [if_neg (by omega)]
    exact h2
  rw [pR_k (ci := 11) hk, ob] at e
  refine ⟨m_setR (m_new M (1, r_len j)) a j (some (m_sz M)), ⟨?_, hk, fun i hi hi2 => ?_⟩, e⟩
  · show m_sz M + 1 = a + 1 + (k + 1)
    omega
  · show (if a = a ∧ i = j then some (m_sz M) else (if a = m_sz M then fun _ => none else m_rv M a) i) = _ ∧ (if a + r_off i = m_sz M then (1, r_len j) else m_kd M (a + r_off i)) = _
    by_cases hij : i = j
    · subst hij
      rw [if_pos ⟨rfl, rfl⟩, if_pos (by omega), h1]
      exact ⟨congrArg some (by omega), rfl⟩
    · have hne : r_off i ≤ k := by
        refine Nat.le_of_lt_succ (Nat.lt_of_le_of_ne hi2 fun q => hij ?_)
        have := q.trans hj.symm
        exact r_off_inj hi this
      rw [if_neg (fun q => hij q.2), if_neg (by omega), if_neg (by omega)]
      exact h3 i hi hne
theorem PZ.setI (h : PZ a k M) (b i : Nat) (v : Int32) : PZ a k (m_setI M b i v) := h
theorem R_init_ok (h0 : PZ a 0 M) (h : f_R_init a M = some K) : PZ a 14 K := by
  unfold f_R_init at h
  obtain ⟨K1, p1, h⟩ := pz_elim (j := 1) h0 rfl (by decide) h
  obtain ⟨K2, p2, h⟩ := pz_elim (j := 2) p1 rfl (by decide) h
  obtain ⟨K3, p3, h⟩ := pz_elim (j := 4) p2 rfl (by decide) h
  obtain ⟨K4, p4, h⟩ := pz_elim (j := 5) p3 rfl (by decide) h
  obtain ⟨K5, p5, h⟩ := pz_elim (j := 7) p4 rfl (by decide) h
  rw [pI_k (ci := 11) p5.2.1, ob] at h
  obtain ⟨K6, p6, h⟩ := pz_elim (j := 14) (p5.setI a 12 (-1)) rfl (by decide) h
  obtain ⟨K7, p7, h⟩ := pz_elim (j := 18) p6 rfl (by decide) h
  obtain ⟨K8, p8, h⟩ := pz_elim (j := 19) p7 rfl (by decide) h
  obtain ⟨K9, p9, h⟩ := pz_elim (j := 20) p8 rfl (by decide) h
  obtain ⟨K10, p10, h⟩ := pz_elim (j := 21) p9 rfl (by decide) h
  obtain ⟨K11, p11, h⟩ := pz_elim (j := 22) p10 rfl (by decide) h
  obtain ⟨K12, p12, h⟩ := pz_elim (j := 23) p11 rfl (by decide) h
  obtain ⟨K13, p13, h⟩ := pz_elim (j := 24) p12 rfl (by decide) h
  obtain ⟨K14, p14, h⟩ := pz_elim (j := 25) p13 rfl (by decide) h
  have st : ∀ {β : Type} {M : Mem} {f : Mem → Option β} {w : β} (k : Nat) (v : Int32), k < 1300 → PZ a 14 M → ((gR M 11 a 1).bind fun b => (ast M b (iN k) v).bind f) = some w → ∃ K, PZ a 14 K ∧ f K = some w := fun k v hk p e => by
    obtain ⟨e1, e2⟩ := p.2.2 1 (by decide) (by decide)
    rw [gR_k (ci := 11) p.2.1, e1, ob, ast_iN e2 (show k < r_len 1 from hk) (by decide), ob] at e
    exact ⟨_, p.setI _ _ _, e⟩
  obtain ⟨L1, q1, h⟩ := st 1 (-1) (by decide) p14 h
  obtain ⟨L2, q2, h⟩ := st 16 1 (by decide) q1 h
  obtain ⟨L3, q3, h⟩ := st 13 10 (by decide) q2 h
  obtain ⟨L4, q4, h⟩ := st 14 2 (by decide) q3 h
  obtain ⟨L5, q5, h⟩ := st 15 5 (by decide) q4 h
  rw [← Option.some.inj h]
  exact q5
theorem hFL_ok (M2 M4 : Mem) (z : Nat × Mem) (h : f_R_init (m_sz M2) (m_new M2 (21, 0)) = some M4) (hz : nwL M4 1 1 = some z) : FL (m_sz M2) z.2 := by
  have p := R_init_ok (a := m_sz M2) (M := m_new M2 (21, 0)) ⟨rfl, by show (if m_sz M2 = m_sz M2 then ((21, 0) : Nat × Nat) else _).1 = 21; rw [if_pos rfl], fun j h1 h2 => by omega⟩ h
  obtain ⟨p1, p2, p3⟩ := p
  have ez : z = (m_sz M4, m_new M4 (4, 1)) := by
    have h2 : nwL M4 1 1 = some (m_sz M4, m_new M4 (4, 1)) := if_pos ⟨by decide, by decide⟩
    rw [h2] at hz
    exact (Option.some.inj hz).symm
  rw [ez]
  have hb : ∀ b, b < m_sz M4 → m_kd (m_new M4 (4, 1)) b = m_kd M4 b ∧ m_rv (m_new M4 (4, 1)) b = m_rv M4 b := fun b hb => ⟨if_neg (by omega), if_neg (by omega)⟩
  have h14 : ∀ j, r_off j ≤ 14 := fun j => by
    unfold r_off
    split <;> omega
  refine ⟨?_, fun j hj => ?_, fun j hj => ?_⟩
  · show (m_kd (m_new M4 (4, 1)) (m_sz M2)).1 = 21
    rw [(hb _ (by omega)).1]; exact p2
  · show m_rv (m_new M4 (4, 1)) (m_sz M2) j = _
    rw [(hb _ (by omega)).2]
    refine (p3 j ?_ (h14 j)).1
    have hm : j ∈ w_rf 11 := List.contains_iff_mem.mp hj
    have hm : j ∈ ([1, 2, 4, 5, 7, 14, 18, 19, 20, 21, 22, 23, 24, 25] : List Nat) := hm
    simp only [List.mem_cons, List.not_mem_nil, or_false] at hm
    rcases hm with rfl | rfl | rfl | rfl | rfl | rfl | rfl | rfl | rfl | rfl | rfl | rfl | rfl | rfl <;> decide
  · have := h14 j
    show m_kd (m_new M4 (4, 1)) (m_sz M2 + r_off j) = _
    rw [(hb _ (by omega)).1]
    exact (p3 j hj (h14 j)).2
end Fl
