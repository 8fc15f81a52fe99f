section Zv
variable {N t B : Nat} {M K : Mem}
/-- the model's row at the start -/
def mZ : Nat → Int32 := up1 (up1 (up1 (up1 (up1 (fun _ => 0) 1 (-1)) 16 1) 13 10) 14 2) 15 5
theorem mZ_c0 : cn mZ 0 = 0 := rfl
theorem mZ_c4 : cn mZ 4 = 0 := rfl
theorem mZ_c5 : cn mZ 5 = 0 := rfl
theorem mZ_c6 : cn mZ 6 = 0 := rfl
theorem mZ_c12 : cn mZ 12 = 0 := rfl
theorem mZ_I : Inv mZ := by
  refine ⟨⟨⟨⟨0, by decide, rfl⟩, ⟨0, by decide, rfl⟩⟩, ⟨⟨10, by decide, rfl⟩, ⟨2, by decide, rfl⟩, ⟨5, by decide, rfl⟩⟩, fun k hk => ?_⟩, ⟨⟨0, by decide, rfl⟩, fun p hp => ?_⟩, ⟨⟨0, by decide, rfl⟩, fun k hk => ?_, fun j k hj hk => ?_⟩, ⟨⟨0, by decide, rfl⟩, fun k hk => ?_⟩, ⟨0, by decide, rfl⟩⟩
  · rw [mZ_c4] at hk; omega
  · rw [mZ_c5] at hp; omega
  · rw [mZ_c6] at hk; omega
  · rw [mZ_c6] at hk; omega
  · rw [mZ_c12] at hk; omega
theorem TP.sh (h : TP M t 10 K) : Shape K t := by
  obtain ⟨⟨⟨a, b, c, d, e, f⟩, -⟩, -, p⟩ := h
  refine ⟨a, b, c, ⟨d, fun i hi => (p i hi).1⟩, e, f, fun i hi => ?_⟩
  obtain ⟨q1, q2, q3, q4, q5⟩ := (p i hi).2.1
  rw [show t + 11 + 3 * i + 1 = t + 12 + 3 * i by omega] at q2 q4
  rw [show t + 11 + 3 * i + 2 = t + 13 + 3 * i by omega] at q3 q5
  exact ⟨q1, q2, q3, q4, q5⟩
theorem TP.rel (h : TP M t 10 K) : TRel K t mZ := by
  obtain ⟨⟨-, -, i0, ⟨i1, i2⟩, ⟨j0, j1, j2⟩, l0, l1⟩, -, p⟩ := h
  refine ⟨⟨i1, i2, ⟨j0, j1, j2⟩, fun k hk => ?_⟩, ⟨?_, ?_, ?_, ?_, ?_, ?_, ?_, ?_, ?_⟩, fun q hq => ⟨fun hq2 => ?_, fun _ => ⟨?_, ?_, ?_, ?_, fun o ho => ⟨?_, ?_⟩⟩⟩, fun k hk => ?_, l0, 0, by decide, l1, fun k c hk => ?_⟩
  · rw [mZ_c4] at hk; omega
  · rw [i0]; rfl
  · rw [i0]; rfl
  · rw [i0]; rfl
  · rw [i0]; rfl
  · rw [i0]; rfl
  · rw [i0]; rfl
  · rw [i0]; rfl
  · rw [i0]; rfl
  · rw [i0]; rfl
  · rw [mZ_c5] at hq2; omega
  · rw [(p q hq).2.2.1]; rfl
  · rw [(p q hq).2.2.1]; rfl
  · rw [(p q hq).2.2.1]; rfl
  · rw [(p q hq).2.2.1]; rfl
  · rw [show t + 12 + 3 * q = t + 11 + 3 * q + 1 by omega, (p q hq).2.2.2.1]
  · rw [show t + 13 + 3 * q = t + 11 + 3 * q + 2 by omega, (p q hq).2.2.2.2 o ho]
  · rw [mZ_c6] at hk; omega
  · rw [mZ_c12] at hk; omega
theorem TP.gt (h : TP M t 10 K) : GT N B K t mZ :=
  ⟨mZ_I, h.rel, fun _ => -1, Or.inl ⟨h.1.2.1, fun _ => rfl, rfl⟩, Or.inl ⟨by decide, fun _ => rfl⟩⟩
end Zv
