section Zx
variable {N x c c2 t B : Nat} {M K L : Mem} {kd kd2 : Nat → Nat × Nat} {iv iv2 : Nat → Nat → Int32} {rv rv2 : Nat → Nat → Option Nat}
/-- where the towns of the object lie -/
def plT (o : Nat) : Prop := o = 2 ∨ o = 43 ∨ o = 85 ∨ ∃ i, i < 12 ∧ o = 136 + 41 * i
def AT (K : Mem) (x c : Nat) : Prop := ∀ o, plT o → o + 41 ≤ c → TSe K (x + o)
theorem AT.fz (A : AT K x c) (h : Fz M K x c kd iv rv) (h2 : Fz M L x c2 kd2 iv2 rv2) (hc : c ≤ c2) (e : ∀ o, o < c → o ≠ 0 → o ≠ 84 → kd2 o = kd o ∧ iv2 o = iv o ∧ rv2 o = rv o) (hn : ∀ o, plT o → o + 41 ≤ c2 → ¬ o + 41 ≤ c → TSe L (x + o)) : AT L x c2 := by
  intro o ho h3
  by_cases h4 : o + 41 ≤ c
  · refine (A o ho h4).of fun b b1 b2 => ?_
    have hb : ∃ q, b = x + q ∧ q < c ∧ q ≠ 0 ∧ q ≠ 84 := by
      refine ⟨b - x, by omega, by omega, ?_, ?_⟩
      · rcases ho with h | h | h | ⟨i, hi, h⟩ <;> omega
      · rcases ho with h | h | h | ⟨i, hi, h⟩ <;> omega
    obtain ⟨q, rfl, q1, q2, q3⟩ := hb
    obtain ⟨e1, e2, e3⟩ := e q q1 q2 q3
    refine ⟨?_, ?_, ?_⟩
    · rw [h.kk q1, h2.kk (by omega), e1]
    · rw [h.i q1, h2.i (by omega), e2]
    · rw [h.r q1, h2.r (by omega), e3]
  · exact hn o ho h3 h4
/-- all that stands in front of the past towns -/
def FP (x : Nat) (kd : Nat → Nat × Nat) (iv : Nat → Nat → Int32) (rv : Nat → Nat → Option Nat) : Prop :=
  (kd 0 = (20, 0) ∧ kd 1 = (1, 400) ∧ kd 84 = (3, 12) ∧ kd 126 = (19, 0) ∧ kd 127 = (1, 10) ∧ kd 128 = (1, 10) ∧ kd 129 = (1, 10) ∧ kd 130 = (1, 10) ∧ kd 131 = (1, 32) ∧ kd 132 = (16, 0) ∧ kd 133 = (1, 8) ∧ kd 134 = (1, 8) ∧ kd 135 = (1, 8)) ∧
  (rv 0 0 = some (x + 1) ∧ rv 0 3 = some (x + 2) ∧ rv 0 4 = some (x + 43) ∧ rv 0 6 = some (x + 84) ∧ rv 0 8 = some (x + 85) ∧ rv 0 9 = some (x + 126) ∧ rv 0 10 = some (x + 132)) ∧
  (rv 126 1 = some (x + 127) ∧ rv 126 2 = some (x + 128) ∧ rv 126 3 = some (x + 129) ∧ rv 126 4 = some (x + 130) ∧ rv 126 5 = some (x + 131)) ∧ (rv 132 2 = some (x + 133) ∧ rv 132 4 = some (x + 134) ∧ rv 132 5 = some (x + 135)) ∧
  (iv 0 1 = 0 ∧ iv 0 2 = -1 ∧ iv 0 5 = 0 ∧ iv 0 7 = 0) ∧ (∀ k, iv 1 k = 0) ∧ ∀ g, iv 131 g = 0
theorem FP.of (h : FP x kd iv rv) (e : ∀ o, o < 136 → kd2 o = kd o ∧ iv2 o = iv o ∧ (o ≠ 84 → rv2 o = rv o)) : FP x kd2 iv2 rv2 := by
  unfold FP at h ⊢
  rw [(e 0 (by decide)).1, (e 1 (by decide)).1, (e 84 (by decide)).1, (e 126 (by decide)).1, (e 127 (by decide)).1, (e 128 (by decide)).1, (e 129 (by decide)).1, (e 130 (by decide)).1, (e 131 (by decide)).1, (e 132 (by decide)).1, (e 133 (by decide)).1, (e 134 (by decide)).1, (e 135 (by decide)).1, (e 0 (by decide)).2.1, (e 1 (by decide)).2.1, (e 131 (by decide)).2.1, (e 0 (by decide)).2.2 (by decide), (e 126 (by decide)).2.2 (by decide), (e 132 (by decide)).2.2 (by decide)]
  exact h
/-- .. and i past towns -/
def CP (M : Mem) (x i : Nat) (K : Mem) : Prop := ∃ kd iv rv, Fz M K x (136 + 41 * i) kd iv rv ∧ AT K x (136 + 41 * i) ∧ FP x kd iv rv ∧ ∀ q, q < i → rv 84 q = some (x + (136 + 41 * q))
theorem ct_step {f : Mem → Option Mem} {Q : Mem → Prop} (i : Nat) (hi : i < 12) (hN : 500 < N) (h : CP M x i K) (g : ∀ L, CP M x (i + 1) L → ∃ L2, f L = some L2 ∧ Q L2) : ∃ L2, ((gR K 10 x 6).bind fun v => (f_Town_init N (m_sz K) (m_new K (17, 0))).bind fun z => (ars z 3 v (iN i) (m_sz K)).bind f) = some L2 ∧ Q L2 := by
  obtain ⟨kd, iv, rv, h1, A, F, R⟩ := h
  obtain ⟨L, e, P⟩ := town_new (N := N) K hN
  have es : m_sz K = x + (136 + 41 * i) := h1.1.2
  have TL := P.ts
  obtain ⟨-, ⟨kd3, iv3, rv3, z1⟩, -⟩ := P
  refine fz_g (u := x + 84) 0 h1 ⟨by omega, by rw [F.1.1]⟩ F.2.1.2.2.2.1 ?_
  rw [e, ob]
  rw [es] at z1 TL ⊢
  have h2 := h1.comp z1
  have A2 : AT L x (136 + 41 * i + (11 + 3 * 10)) := A.fz h1 h2 (by omega) (fun o o1 _ _ => ⟨if_pos o1, if_pos o1, if_pos o1⟩) (fun o ho o1 o2 => by
    have : o = 136 + 41 * i := by rcases ho with h | h | h | ⟨j, hj, h⟩ <;> omega
    rw [this]
    exact TL)
  have k17 : (m_kd L (x + (136 + 41 * i))).1 = 17 := by rw [TL.1.1.1]
  rw [h2.kk (by omega)] at k17
  refine fz_ars (n := 12) 84 i h2 ⟨by omega, by rw [if_pos (show 84 < 136 + 41 * i by omega)]; exact F.1.2.2.1⟩ hi (by decide) (136 + 41 * i) ⟨by omega, k17⟩ fun K2 h3 => ?_
  have A3 : AT K2 x (136 + 41 * i + (11 + 3 * 10)) := A2.fz h2 h3 (by omega) (fun o o1 _ o3 => ⟨rfl, rfl, if_neg o3⟩) (fun o ho o1 o2 => absurd o1 o2)
  rw [show 136 + 41 * i + (11 + 3 * 10) = 136 + 41 * (i + 1) by omega] at h3 A3
  refine g K2 ⟨_, _, _, h3, A3, F.of fun o ho => ⟨if_pos (by omega), if_pos (by omega), fun h84 => ?_⟩, fun q hq => ?_⟩
  · show (if o = 84 then _ else _) = rv o
    rw [if_neg h84]
    exact if_pos (by omega)
  · show (if 84 = 84 then up1 (if 84 < 136 + 41 * i then rv 84 else _) i (some (x + (136 + 41 * i))) else _) q = _
    rw [if_pos rfl, if_pos (by omega), up1_at]
    by_cases hqi : q = i
    · rw [if_pos hqi, hqi]
    · rw [if_neg hqi]
      exact R q (by omega)
end Zx
