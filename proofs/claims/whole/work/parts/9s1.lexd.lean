section Le
variable {N en i j k p t w b rd xx : Nat} {tx : Nat → Int32} {K L M : Mem} {f lo hi c : Int32} {W : List Int32}
/-- the same, but for one object's ints -/
def Rq (rd : Nat) (K L : Mem) : Prop := (m_sz L = m_sz K ∧ m_kd L = m_kd K ∧ m_rv L = m_rv K ∧ m_lv L = m_lv K) ∧ ∀ b, b ≠ rd → m_iv L b = m_iv K b
theorem Rq.refl (K : Mem) : Rq rd K K := ⟨⟨rfl, rfl, rfl, rfl⟩, fun _ _ => rfl⟩
theorem Rq.trans (h : Rq rd K L) (k : Rq rd L M) : Rq rd K M := ⟨⟨k.1.1.trans h.1.1, k.1.2.1.trans h.1.2.1, k.1.2.2.1.trans h.1.2.2.1, k.1.2.2.2.trans h.1.2.2.2⟩, fun b hb => (k.2 b hb).trans (h.2 b hb)⟩
theorem Rq.set (K : Mem) (j : Nat) (v : Int32) : Rq rd K (m_setI K rd j v) := ⟨⟨rfl, rfl, rfl, rfl⟩, fun b hb => iv_ne hb⟩
/-- the class's reader at the thing at i, the one before at t, and the fault -/
def CS (K : Mem) (rd en : Nat) (tx : Nat → Int32) (i t : Nat) (f : Int32) : Prop := m_iv K rd 0 = f ∧ m_iv K rd 2 = iN en ∧ m_iv K rd 3 = iN t ∧ m_iv K rd 4 = iN i ∧ m_iv K rd 5 = iN (tkE tx en i) ∧ i ≤ en ∧ skN tx en i = i ∧ t ≤ en ∧ (f = -1 ∨ ∃ p, p ≤ en ∧ f = iN p)
theorem CS.of (h : CS K rd en tx i t f) (e : m_iv L rd = m_iv K rd) : CS L rd en tx i t f := by
  unfold CS at h ⊢
  rw [e]
  exact h
end Le
