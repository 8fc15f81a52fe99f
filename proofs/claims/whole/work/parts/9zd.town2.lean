section Zu
variable {N t c k o j n B ci u b : Nat} {M0 M K L : Mem} {v : Int32} {kd : Nat → Nat × Nat} {iv : Nat → Nat → Int32} {rv : Nat → Nat → Option Nat}
theorem Fz.lo (h : Fz M0 M t c kd iv rv) (hb : b < t) : m_kd M b = m_kd M0 b ∧ m_iv M b = m_iv M0 b ∧ m_rv M b = m_rv M0 b :=
  ⟨by rw [h.2.1, if_neg (by omega)], by rw [h.2.2.1, if_neg (by omega)], by rw [h.2.2.2, if_neg (by omega)]⟩
/-- a town as made but for its people -/
def Fg (K : Mem) (t : Nat) : Prop :=
  ((m_kd K t = (17, 0) ∧ m_rv K t 0 = some (t + 1) ∧ m_rv K t 1 = some (t + 6) ∧ m_rv K t 3 = some (t + 7) ∧ m_rv K t 4 = some (t + 8) ∧ m_rv K t 14 = some (t + 9)) ∧
    (m_kd K (t + 1) = (10, 0) ∧ m_rv K (t + 1) 0 = some (t + 2) ∧ m_rv K (t + 1) 3 = some (t + 3) ∧ m_rv K (t + 1) 4 = some (t + 4) ∧ m_rv K (t + 1) 5 = some (t + 5)) ∧
    (m_kd K (t + 2) = (14, 0) ∧ m_kd K (t + 3) = (1, 24) ∧ m_kd K (t + 4) = (1, 24) ∧ m_kd K (t + 5) = (1, 24)) ∧ m_kd K (t + 6) = (2, 10) ∧ (m_kd K (t + 7) = (1, 24) ∧ m_kd K (t + 8) = (1, 24)) ∧
    (m_kd K (t + 9) = (13, 0) ∧ m_rv K (t + 9) 2 = some (t + 10) ∧ m_kd K (t + 10) = (1, 480))) ∧
  m_rv K t 6 = none ∧ (∀ j, m_iv K t j = if j = 8 then 1 else 0) ∧ (m_iv K (t + 1) 1 = 0 ∧ m_iv K (t + 1) 2 = 0) ∧ (m_iv K (t + 2) 0 = 10 ∧ m_iv K (t + 2) 1 = 2 ∧ m_iv K (t + 2) 2 = 5) ∧ m_iv K (t + 9) 0 = 0 ∧ m_iv K (t + 9) 1 = 0
theorem Fg.of (h : Fg M t) (hk : ∀ b, t ≤ b → b < t + 11 → m_kd K b = m_kd M b ∧ m_iv K b = m_iv M b) (hr : ∀ b, t ≤ b → b < t + 11 → b ≠ t + 6 → m_rv K b = m_rv M b) : Fg K t := by
  unfold Fg at h ⊢
  rw [(hk t (by omega) (by omega)).1, (hk t (by omega) (by omega)).2, (hk (t + 1) (by omega) (by omega)).1, (hk (t + 1) (by omega) (by omega)).2, (hk (t + 2) (by omega) (by omega)).1, (hk (t + 2) (by omega) (by omega)).2, (hk (t + 3) (by omega) (by omega)).1, (hk (t + 4) (by omega) (by omega)).1, (hk (t + 5) (by omega) (by omega)).1, (hk (t + 6) (by omega) (by omega)).1, (hk (t + 7) (by omega) (by omega)).1, (hk (t + 8) (by omega) (by omega)).1, (hk (t + 9) (by omega) (by omega)).1, (hk (t + 9) (by omega) (by omega)).2, (hk (t + 10) (by omega) (by omega)).1, hr t (by omega) (by omega) (by omega), hr (t + 1) (by omega) (by omega) (by omega), hr (t + 9) (by omega) (by omega) (by omega)]
  exact h
theorem NewP.of {p : Nat} (h : NewP M p) (hk : ∀ b, p ≤ b → b < p + 3 → m_kd K b = m_kd M b ∧ m_iv K b = m_iv M b ∧ m_rv K b = m_rv M b) : NewP K p := by
  unfold NewP at h ⊢
  rw [(hk p (by omega) (by omega)).1, (hk p (by omega) (by omega)).2.1, (hk p (by omega) (by omega)).2.2, (hk (p + 1) (by omega) (by omega)).1, (hk (p + 1) (by omega) (by omega)).2.1, (hk (p + 2) (by omega) (by omega)).1, (hk (p + 2) (by omega) (by omega)).2.1]
  exact h
/-- .. with i people -/
def TP (M : Mem) (t i : Nat) (K : Mem) : Prop := Fg K t ∧ (∃ kd iv rv, Fz M K t (11 + 3 * i) kd iv rv) ∧ ∀ q, q < i → m_rv K (t + 6) q = some (t + 11 + 3 * q) ∧ NewP K (t + 11 + 3 * q)
theorem town_step {f : Mem → Option Mem} {Q : Mem → Prop} (i : Nat) (hi : i < 10) (hN : 500 < N) (h : TP M t i K) (g : ∀ L, TP M t (i + 1) L → ∃ L2, f L = some L2 ∧ Q L2) : ∃ L2, ((gR K 7 t 1).bind fun v => (f_Person_init N (m_sz K) (m_new K (15, 0))).bind fun z => (ars z 2 v (iN i) (m_sz K)).bind f) = some L2 ∧ Q L2 := by
  obtain ⟨h1, ⟨kd, iv, rv, h2⟩, h3⟩ := h
  obtain ⟨L, e, kd2, iv2, rv2, z1, z2⟩ := person_fz (N := N) K hN
  have es : m_sz K = t + (11 + 3 * i) := h2.1.2
  rw [gR_k (ci := 7) (by rw [h1.1.1.1]), h1.1.1.2.2.1, ob, e, ob]
  have lo : ∀ b, b < t + (11 + 3 * i) → m_kd L b = m_kd K b ∧ m_iv L b = m_iv K b ∧ m_rv L b = m_rv K b := fun b hb => z1.lo (by omega)
  have k6 : m_kd L (t + 6) = (2, 10) := by rw [(lo (t + 6) (by omega)).1]; exact h1.1.2.2.2.1
  have ea : ars L 2 (t + 6) (iN i) (m_sz K) = some (m_setR L (t + 6) i (some (t + 11 + 3 * i))) := by
    unfold ars
    rw [k6, z2.1.1, if_pos ⟨rfl, inR_iN (n := 10) hi (by omega), rfl⟩, iN_cl (by omega), es, show t + (11 + 3 * i) = t + 11 + 3 * i by omega]
  rw [ea, ob]
  rw [es] at z1
  have hz := (h2.comp z1).setR (o := 6) (by omega) i (some (t + 11 + 3 * i))
  rw [show 11 + 3 * i + 3 = 11 + 3 * (i + 1) by omega] at hz
  refine g _ ⟨h1.of (fun b b1 b2 => ⟨(lo b (by omega)).1, (lo b (by omega)).2.1⟩) (fun b b1 b2 b3 => ?_), ⟨_, _, _, hz⟩, fun q hq => ⟨?_, ?_⟩⟩
  · funext j
    rw [rv_setR, if_neg (fun w => b3 w.1), (lo b (by omega)).2.2]
  · rw [rv_setR]
    by_cases hqi : q = i
    · rw [if_pos ⟨rfl, hqi⟩, hqi]
    · rw [if_neg (fun w => hqi w.2), (lo (t + 6) (by omega)).2.2]
      exact (h3 q (by omega)).1
  · have nr : ∀ b, b ≠ t + 6 → m_rv (m_setR L (t + 6) i (some (t + 11 + 3 * i))) b = m_rv L b := fun b hb => by
      funext j
      rw [rv_setR, if_neg (fun w => hb w.1)]
    by_cases hqi : q = i
    · subst hqi
      rw [es, show t + (11 + 3 * q) = t + 11 + 3 * q by omega] at z2
      exact z2.of fun b b1 b2 => ⟨rfl, rfl, nr b (by omega)⟩
    · exact (h3 q (by omega)).2.of fun b b1 b2 => ⟨(lo b (by omega)).1, (lo b (by omega)).2.1, by rw [nr b (by omega)]; exact (lo b (by omega)).2.2⟩
theorem town_new (M : Mem) (hN : 500 < N) : ∃ L, f_Town_init N (m_sz M) (m_new M (17, 0)) = some L ∧ TP M (m_sz M) 10 L := by
  unfold f_Town_init
  have h0 := Fz.start M (17, 0)
  generalize m_sz M = t at *
  generalize m_new M (17, 0) = M1 at *
  obtain ⟨L, e, kd, iv, rv, h1, ⟨a0, a1, a2, a3, a4⟩, ⟨b0, b1, b2, b3, b4⟩, ⟨c0, c1, c2, c3⟩⟩ := lands_new M1
  rw [e, ob]
  have es : m_sz M1 = t + 1 := h0.1.2
  rw [es] at h1 c0 c1 c2 c3 ⊢
  have h1 := h0.comp h1
  refine fz_R 0 h1 ⟨by decide, rfl⟩ fun K1 h1 => ?_
  refine fz_nR h1 10 ⟨by decide, by decide⟩ fun K2 h2 => ?_
  refine fz_R 0 h2 ⟨by decide, rfl⟩ fun K3 h3 => ?_
  refine fz_I h3 24 ⟨by decide, by decide⟩ fun K4 h4 => ?_
  refine fz_R 0 h4 ⟨by decide, rfl⟩ fun K5 h5 => ?_
  refine fz_I h5 24 ⟨by decide, by decide⟩ fun K6 h6 => ?_
  refine fz_R 0 h6 ⟨by decide, rfl⟩ fun K7 h7 => ?_
  refine fz_V 0 h7 ⟨by decide, rfl⟩ fun K8 h8 => ?_
  obtain ⟨L2, e2, kd2, iv2, rv2, g1, ⟨d0, d1⟩, ⟨i0, i1⟩, r2⟩ := log_new K8
  rw [e2, ob]
  have es2 : m_sz K8 = t + 9 := h8.1.2
  rw [es2] at g1 r2 ⊢
  have h9 := h8.comp g1
  refine fz_R 0 h9 ⟨by decide, rfl⟩ fun K9 h9 => ?_
  have F : Fg K9 t := by
    refine ⟨⟨⟨?_, ?_, ?_, ?_, ?_, ?_⟩, ⟨?_, ?_, ?_, ?_, ?_⟩, ⟨?_, ?_, ?_, ?_⟩, ?_, ⟨?_, ?_⟩, ⟨?_, ?_, ?_⟩⟩, ?_, fun j => ?_, ⟨?_, ?_⟩, ⟨?_, ?_, ?_⟩, ?_, ?_⟩
    · exact h9.kk (o := 0) (by decide)
    · exact congrFun (h9.r (o := 0) (by decide)) 0
    · exact congrFun (h9.r (o := 0) (by decide)) 1
    · exact congrFun (h9.r (o := 0) (by decide)) 3
    · exact congrFun (h9.r (o := 0) (by decide)) 4
    · exact congrFun (h9.r (o := 0) (by decide)) 14
    · exact (h9.kk (o := 1) (by decide)).trans a0
    · exact (congrFun (h9.r (o := 1) (by decide)) 0).trans c0
    · exact (congrFun (h9.r (o := 1) (by decide)) 3).trans c1
    · exact (congrFun (h9.r (o := 1) (by decide)) 4).trans c2
    · exact (congrFun (h9.r (o := 1) (by decide)) 5).trans c3
    · exact (h9.kk (o := 2) (by decide)).trans a1
    · exact (h9.kk (o := 3) (by decide)).trans a2
    · exact (h9.kk (o := 4) (by decide)).trans a3
    · exact (h9.kk (o := 5) (by decide)).trans a4
    · exact h9.kk (o := 6) (by decide)
    · exact h9.kk (o := 7) (by decide)
    · exact h9.kk (o := 8) (by decide)
    · exact (h9.kk (o := 9) (by decide)).trans d0
    · exact (congrFun (h9.r (o := 9) (by decide)) 2).trans r2
    · exact (h9.kk (o := 10) (by decide)).trans d1
    · exact congrFun (h9.r (o := 0) (by decide)) 6
    · exact congrFun (h9.i (o := 0) (by decide)) j
    · exact (congrFun (h9.i (o := 1) (by decide)) 1).trans b0
    · exact (congrFun (h9.i (o := 1) (by decide)) 2).trans b1
    · exact (congrFun (h9.i (o := 2) (by decide)) 0).trans b2
    · exact (congrFun (h9.i (o := 2) (by decide)) 1).trans b3
    · exact (congrFun (h9.i (o := 2) (by decide)) 2).trans b4
    · exact (congrFun (h9.i (o := 9) (by decide)) 0).trans i0
    · exact (congrFun (h9.i (o := 9) (by decide)) 1).trans i1
  have P0 : TP M t 0 K9 := ⟨F, ⟨_, _, _, h9⟩, fun q hq => by omega⟩
  clear h9 F
  refine town_step 0 (by decide) hN P0 fun L0 P0 => ?_
  refine town_step 1 (by decide) hN P0 fun L0 P0 => ?_
  refine town_step 2 (by decide) hN P0 fun L0 P0 => ?_
  refine town_step 3 (by decide) hN P0 fun L0 P0 => ?_
  refine town_step 4 (by decide) hN P0 fun L0 P0 => ?_
  refine town_step 5 (by decide) hN P0 fun L0 P0 => ?_
  refine town_step 6 (by decide) hN P0 fun L0 P0 => ?_
  refine town_step 7 (by decide) hN P0 fun L0 P0 => ?_
  refine town_step 8 (by decide) hN P0 fun L0 P0 => ?_
  refine town_step 9 (by decide) hN P0 fun L0 P0 => ?_
  exact ⟨L0, rfl, P0⟩
end Zu
