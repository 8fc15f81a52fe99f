section Zz
variable {N x : Nat} {M K L : Mem}
theorem CP.xs (h : CP M x 12 K) : XSk K x (fun i => i) (fun i => i) := by
  obtain ⟨kd, iv, rv, F, A, ⟨⟨k0, k1, k84, k126, k127, k128, k129, k130, k131, k132, k133, k134, k135⟩, ⟨r0, r3, r4, r6, r8, r9, r10⟩, ⟨y1, y2, y3, y4, y5⟩, ⟨s1, s2, s3⟩, -, -, -⟩, R⟩ := h
  have kk : ∀ {o : Nat} {v : Nat × Nat}, o < 628 → kd o = v → m_kd K (x + o) = v := fun ho e => (F.kk ho).trans e
  have rr : ∀ {o j : Nat} {v : Option Nat}, o < 628 → rv o j = v → m_rv K (x + o) j = v := fun ho e => (congrFun (F.r ho) _).trans e
  have tt : ∀ o, plT o → o + 41 ≤ 628 → Shape K (x + o) := fun o ho h => (A o ho h).1
  refine ⟨⟨kk (o := 0) (by decide) k0, rr (o := 0) (by decide) r0, rr (o := 0) (by decide) r3, rr (o := 0) (by decide) r4, rr (o := 0) (by decide) r6, rr (o := 0) (by decide) r8, rr (o := 0) (by decide) r9, rr (o := 0) (by decide) r10⟩, ⟨kk (by decide) k1, kk (by decide) k84⟩, ⟨tt 2 (Or.inl rfl) (by decide), tt 43 (Or.inr (Or.inl rfl)) (by decide), tt 85 (Or.inr (Or.inr (Or.inl rfl))) (by decide), fun i hi => ?_⟩, fun i hi => ⟨hi, ?_⟩, fun i j _ _ h => h, ⟨⟨kk (by decide) k126, rr (by decide) y1, rr (by decide) y2, rr (by decide) y3, rr (by decide) y4, rr (by decide) y5⟩, ⟨kk (by decide) k127, kk (by decide) k128, kk (by decide) k129, kk (by decide) k130, kk (by decide) k131⟩, by decide⟩, ⟨⟨kk (by decide) k132, rr (by decide) s1, rr (by decide) s2, rr (by decide) s3⟩, kk (by decide) k133, kk (by decide) k134, kk (by decide) k135⟩, ?_⟩
  · have h := tt (136 + 41 * i) (Or.inr (Or.inr (Or.inr ⟨i, hi, rfl⟩))) (by omega)
    rw [show x + (136 + 41 * i) = x + 136 + 41 * i by omega] at h
    exact h
  · have h := rr (o := 84) (j := i) (by decide) (R i hi)
    rw [show x + (136 + 41 * i) = x + 136 + 41 * i by omega] at h
    exact h
  · have := F.1.2
    omega
end Zz
