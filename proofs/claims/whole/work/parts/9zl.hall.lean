/-- from the start, every script comes to its end -/
theorem hall_ok {L : Nat} {xs : Nat → Int32} (hL : L ≤ 3072) (n : Nat) : ∃ z, f_law 20000 xs L (m_0 n) = some z :=
  law_ok (Nat.le_refl _) hL (fun x o i hi => step_ok (Nat.le_refl _) hi (by omega)) n
