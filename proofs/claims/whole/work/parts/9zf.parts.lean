section Zw
variable {N t B : Nat} {M K : Mem}
theorem years_new (M : Mem) : ∃ L, f_Years_init (m_sz M) (m_new M (19, 0)) = some L ∧ ∃ kd iv rv, Fz M L (m_sz M) 6 kd iv rv ∧ (kd 0 = (19, 0) ∧ kd 1 = (1, 10) ∧ kd 2 = (1, 10) ∧ kd 3 = (1, 10) ∧ kd 4 = (1, 10) ∧ kd 5 = (1, 32)) ∧ (∀ g, iv 5 g = 0) ∧ (rv 0 1 = some (m_sz M + 1) ∧ rv 0 2 = some (m_sz M + 2) ∧ rv 0 3 = some (m_sz M + 3) ∧ rv 0 4 = some (m_sz M + 4) ∧ rv 0 5 = some (m_sz M + 5)) := by
  unfold f_Years_init
  have h0 := Fz.start M (19, 0)
  generalize m_sz M = t at *
  refine fz_I h0 10 ⟨by decide, by decide⟩ fun K1 h1 => ?_
  refine fz_R 0 h1 ⟨by decide, rfl⟩ fun K2 h2 => ?_
  refine fz_I h2 10 ⟨by decide, by decide⟩ fun K3 h3 => ?_
  refine fz_R 0 h3 ⟨by decide, rfl⟩ fun K4 h4 => ?_
  refine fz_I h4 10 ⟨by decide, by decide⟩ fun K5 h5 => ?_
  refine fz_R 0 h5 ⟨by decide, rfl⟩ fun K6 h6 => ?_
  refine fz_I h6 10 ⟨by decide, by decide⟩ fun K7 h7 => ?_
  refine fz_R 0 h7 ⟨by decide, rfl⟩ fun K8 h8 => ?_
  refine fz_I h8 32 ⟨by decide, by decide⟩ fun K9 h9 => ?_
  refine fz_R 0 h9 ⟨by decide, rfl⟩ fun K10 h10 => ?_
  exact ⟨K10, rfl, _, _, _, h10, ⟨rfl, rfl, rfl, rfl, rfl, rfl⟩, fun g => rfl, rfl, rfl, rfl, rfl, rfl⟩
theorem seating_new (M : Mem) : ∃ L, f_Seating_init (m_sz M) (m_new M (16, 0)) = some L ∧ ∃ kd iv rv, Fz M L (m_sz M) 4 kd iv rv ∧ (kd 0 = (16, 0) ∧ kd 1 = (1, 8) ∧ kd 2 = (1, 8) ∧ kd 3 = (1, 8)) ∧ (rv 0 2 = some (m_sz M + 1) ∧ rv 0 4 = some (m_sz M + 2) ∧ rv 0 5 = some (m_sz M + 3)) := by
  unfold f_Seating_init
  have h0 := Fz.start M (16, 0)
  generalize m_sz M = t at *
  refine fz_I h0 8 ⟨by decide, by decide⟩ fun K1 h1 => ?_
  refine fz_R 0 h1 ⟨by decide, rfl⟩ fun K2 h2 => ?_
  refine fz_I h2 8 ⟨by decide, by decide⟩ fun K3 h3 => ?_
  refine fz_R 0 h3 ⟨by decide, rfl⟩ fun K4 h4 => ?_
  refine fz_I h4 8 ⟨by decide, by decide⟩ fun K5 h5 => ?_
  refine fz_R 0 h5 ⟨by decide, rfl⟩ fun K6 h6 => ?_
  exact ⟨K6, rfl, _, _, _, h6, ⟨rfl, rfl, rfl, rfl⟩, rfl, rfl, rfl⟩
/-- a new town at t -/
def TSe (K : Mem) (t : Nat) : Prop := Shape K t ∧ TRel K t mZ ∧ m_rv K t 6 = none
theorem TP.ts (h : TP M t 10 K) : TSe K t := ⟨h.sh, h.rel, h.1.2.1⟩
theorem TSe.of {L : Mem} (h : TSe K t) (ha : ∀ b, t ≤ b → b < t + 41 → m_kd L b = m_kd K b ∧ m_iv L b = m_iv K b ∧ m_rv L b = m_rv K b) : TSe L t :=
  ⟨h.1.of (fun b h1 h2 => (ha b h1 h2).1) (fun b j h1 h2 _ => by rw [(ha b h1 h2).2.2]), h.2.1.frame fun b h1 h2 => (ha b h1 h2).2.1, by rw [(ha t (by omega) (by omega)).2.2]; exact h.2.2⟩
theorem TSe.gt (h : TSe K t) : GT N B K t mZ := ⟨mZ_I, h.2.1, fun _ => -1, Or.inl ⟨h.2.2, fun _ => rfl, rfl⟩, Or.inl ⟨by decide, fun _ => rfl⟩⟩
end Zw
