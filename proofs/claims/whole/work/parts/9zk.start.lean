section Zk
variable {N L : Nat} {xs : Nat → Int32}
theorem start_GS (n : Nat) (hN : 500 < N) : ∃ M2 M4, f_CT_init N n (m_new (m_0 n) (20, 0)) = some M2 ∧ f_R_init (m_sz M2) (m_new M2 (21, 0)) = some M4 ∧ GS N n (m_sz M4) (fun i => i) (fun i => i) (flM (m_sz M2) (m_new M4 (4, 1))) (flR (m_sz M2) (m_new M4 (4, 1))) := by
  obtain ⟨M2, e1, P⟩ := ct_new (N := N) (m_0 n) hN
  obtain ⟨M4, e2, kd, iv, rv, F, i1, ⟨f3, f6, f8, f12, f15, f16⟩, i5⟩ := md_new M2
  refine ⟨M2, M4, e1, e2, ?_⟩
  have P : CP (m_0 n) n 12 M2 := P
  have X := P.xs
  obtain ⟨kd2, iv2, rv2, F2, A, ⟨-, -, -, -, ⟨c1, c2, c5, c7⟩, ct, cg⟩, -⟩ := P
  have sa : m_sz M2 = n + 628 := F2.1.2
  have s4 : m_sz M4 = m_sz M2 + 15 := F.1.2
  generalize ha : m_sz M2 = a at *
  have fr : ∀ o2, o2 < 15 → m_iv (m_new M4 (4, 1)) (a + o2) = iv o2 := fun o2 h => by
    rw [iv_new, if_neg (by omega)]
    exact F.i h
  have r0 : ∀ j, (flR a (m_new M4 (4, 1))).1 j = iv 0 j := fun j => congrFun (fr 0 (by decide)) j
  have r1 : (flR a (m_new M4 (4, 1))).2 1 = mZ := by
    funext k
    exact (congrFun (fr 1 (by decide)) k).trans (i1 k)
  have r7 : ∀ k, (flR a (m_new M4 (4, 1))).2 7 k = 0 := fun k => (congrFun (fr 5 (by decide)) k).trans (i5 k)
  have lo : ∀ b, b < a → m_kd (flM a (m_new M4 (4, 1))) b = m_kd M2 b ∧ m_rv (flM a (m_new M4 (4, 1))) b = m_rv M2 b ∧ m_iv (flM a (m_new M4 (4, 1))) b = m_iv M2 b := fun b hb => by
    obtain ⟨g1, g2, g3⟩ := F.lo hb
    refine ⟨?_, ?_, ?_⟩
    · show (if a ≤ b ∧ b < a + 15 then ((0, 0) : Nat × Nat) else (if b = m_sz M4 then (4, 1) else m_kd M4 b)) = _
      rw [if_neg (by omega), if_neg (by omega), g1]
    · show (if b = m_sz M4 then (fun _ => none) else m_rv M4 b) = _
      rw [if_neg (by omega), g3]
    · show (if b = m_sz M4 then (fun _ => 0) else m_iv M4 b) = _
      rw [if_neg (by omega), g2]
  have E : Ext M2 (flM a (m_new M4 (4, 1))) := ⟨by show m_sz M2 ≤ m_sz M4 + 1; omega, fun b hb => lo b (by omega)⟩
  have ii : ∀ o2, o2 < 628 → m_iv (flM a (m_new M4 (4, 1))) (n + o2) = iv2 o2 := fun o2 h => by rw [(lo (n + o2) (by omega)).2.2, F2.i h]
  have xi : ∀ j, m_iv (flM a (m_new M4 (4, 1))) n j = iv2 0 j := fun j => congrFun (ii 0 (by decide)) j
  refine ⟨X.ext E, ⟨?_, by omega, by show m_sz M4 < m_sz M4 + 1; omega, fun b hb => ?_⟩, fun g _ => ?_, ?_, ⟨?_, ⟨0, by decide, ?_⟩, fun k _ => ?_⟩, ?_, ⟨?_, Or.inl ?_⟩, ⟨?_, ⟨0, by decide, ?_⟩, fun k hk => ?_⟩⟩
  · show (if a ≤ m_sz M4 ∧ m_sz M4 < a + 15 then ((0, 0) : Nat × Nat) else (if m_sz M4 = m_sz M4 then (4, 1) else m_kd M4 _)) = _
    rw [if_neg (by omega), if_pos rfl]
  · have hb : m_sz M4 + 1 ≤ b := hb
    show (if a ≤ b ∧ b < a + 15 then ((0, 0) : Nat × Nat) else (if b = m_sz M4 then (4, 1) else m_kd M4 b)).1 = 0
    rw [if_neg (by omega), if_neg (by omega), F.2.1, if_neg (by omega), F2.2.1, if_neg (by omega)]
    rfl
  · rw [ii 131 (by decide)]; exact cg g
  · rw [r1]
    exact ((A 2 (Or.inl rfl) (by decide)).of fun b b1 b2 => ⟨(lo b (by omega)).1, (lo b (by omega)).2.2, (lo b (by omega)).2.1⟩).gt
  · rw [xi, r0, c1, f8]
  · rw [r0, f8]; rfl
  · rw [ii 1 (by decide), ct, r7]
  · refine ⟨by rw [xi, r0, c2, f12], ?_⟩
    unfold Bz
    rw [r0, r0, f15, f16]
    exact ⟨Or.inl rfl, Or.inl rfl⟩
  · rw [xi, r0, c5, f3]
  · rw [r0, f3]
  · rw [xi, r0, c7, f6]
  · rw [r0, f6]; rfl
  · rw [r0, f6] at hk
    exact absurd hk (Nat.not_lt_zero k)
theorem law_ok (hN : 20000 ≤ N) (hL : L ≤ 3072) (H : ∀ (x o i : Nat), i + 6 ≤ L → TurnOK N x o (f_L_step N xs L x o (iN i))) (n : Nat) : ∃ z, f_law N xs L (m_0 n) = some z := by
  obtain ⟨M2, M4, e1, e2, G⟩ := start_GS (N := N) n (by omega)
  obtain ⟨z, ez⟩ := loop_ok (N := N) (xs := xs) (L := L) (x := n) (o := m_sz M4) (by omega) (fun i hi => H n (m_sz M4) i hi) 513 0 _ _ _ _ (by decide) (by omega) (by decide) G
  refine ⟨z, ?_⟩
  unfold f_law f_L_pre
  rw [show f_CT_init N (m_sz (m_0 n)) (m_new (m_0 n) (20, 0)) = some M2 from e1, ob, e2, ob, show nwL M4 1 1 = some (m_sz M4, m_new M4 (4, 1)) from if_pos ⟨by decide, by decide⟩, ob]
  exact ez
end Zk
