section Zt
variable {N t c k o j n B ci u : Nat} {M0 M K L : Mem} {v : Int32} {kd : Nat → Nat × Nat} {iv : Nat → Nat → Int32} {rv : Nat → Nat → Option Nat}
theorem fz_fill {f : Mem → Option Mem} {Q : Mem → Prop} (o : Nat) (h : Fz M0 M t c kd iv rv) (ho : o < c ∧ kd o = (1, n)) (hn : n ≤ 10000) (hN : n < N) (g : ∀ K, Fz M0 K t c kd (ap iv o (fun i => if i < n then v else iv o i)) rv → ∃ L, f K = some L ∧ Q L) : ∃ L, (f_Arrays_fill N (t + o) v M).bind f = some L ∧ Q L := by
  obtain ⟨K, e, ⟨k1, k2, k3, k4⟩, k5, k6⟩ := fill_eq (N := N) (a := t + o) (M := M) (by rw [h.kk ho.1]; exact ho.2) hn hN v
  rw [e, ob]
  refine g K ⟨⟨h.1.1, by rw [k1]; exact h.1.2⟩, by rw [k2]; exact h.2.1, fun b => ?_, by rw [k3]; exact h.2.2.2⟩
  unfold ap
  by_cases hb : b = t + o
  · rw [hb, if_pos (show t ≤ t + o ∧ t + o < t + c by omega), if_pos (show t + o - t = o by omega)]
    funext i
    rw [k6, h.i ho.1]
  · rw [k5 b hb, h.2.2.1]
    by_cases h2 : t ≤ b ∧ b < t + c
    · rw [if_pos h2, if_pos h2, if_neg (by omega)]
    · rw [if_neg h2, if_neg h2]
theorem fz_g {f : Nat → Option Mem} {Q : Mem → Prop} (o : Nat) (h : Fz M0 M t c kd iv rv) (ho : o < c ∧ (kd o).1 = 10 + ci) (hu : rv o j = some u) (g : ∃ L, f u = some L ∧ Q L) : ∃ L, (gR M ci (t + o) j).bind f = some L ∧ Q L := by
  rw [gR_k (ci := ci) (by rw [h.kk ho.1]; exact ho.2), h.r ho.1, hu, ob]
  exact g
theorem fz_ars {f : Mem → Option Mem} {Q : Mem → Prop} {q : Nat} (o : Nat) (i : Nat) (h : Fz M0 M t c kd iv rv) (ho : o < c ∧ kd o = (q, n)) (hi : i < n) (hn : n ≤ 1000) (p : Nat) (hp : p < c ∧ (kd p).1 = (if q = 2 then 15 else 17)) (g : ∀ K, Fz M0 K t c kd iv (ap rv o (up1 (rv o) i (some (t + p)))) → ∃ L, f K = some L ∧ Q L) : ∃ L, (ars M q (t + o) (iN i) (t + p)).bind f = some L ∧ Q L := by
  have e : ars M q (t + o) (iN i) (t + p) = some (m_setR M (t + o) i (some (t + p))) := by
    unfold ars
    rw [h.kk ho.1, h.kk hp.1, ho.2, if_pos ⟨rfl, inR_iN hi (by omega), hp.2⟩, iN_cl (by omega)]
  rw [e, ob]
  exact g _ (h.setR ho.1 i (some (t + p)))
/-- a person as made, with all the rest -/
theorem person_fz (M : Mem) (hN : 500 < N) : ∃ L, f_Person_init N (m_sz M) (m_new M (15, 0)) = some L ∧ ∃ kd iv rv, Fz M L (m_sz M) 3 kd iv rv ∧ NewP L (m_sz M) := by
  have h0 := Fz.start M (15, 0)
  obtain ⟨K, e, e2, e3⟩ := person_new (N := N) (M := M) hN
  rw [e]
  refine ⟨K, rfl, ?_⟩
  suffices h : ∃ L, f_Person_init N (m_sz M) (m_new M (15, 0)) = some L ∧ ∃ kd iv rv, Fz M L (m_sz M) 3 kd iv rv by
    obtain ⟨L, g1, kd, iv, rv, g2⟩ := h
    rw [e] at g1
    rw [← Option.some.inj g1] at g2
    exact ⟨kd, iv, rv, g2, e3⟩
  clear e e2 e3
  unfold f_Person_init
  generalize m_sz M = t at *
  refine fz_V 0 h0 ⟨by decide, rfl⟩ fun K1 h1 => ?_
  refine fz_V 0 h1 ⟨by decide, rfl⟩ fun K2 h2 => ?_
  refine fz_I h2 10 ⟨by decide, by decide⟩ fun K3 h3 => ?_
  refine fz_R 0 h3 ⟨by decide, rfl⟩ fun K4 h4 => ?_
  refine fz_I h4 10 ⟨by decide, by decide⟩ fun K5 h5 => ?_
  refine fz_R 0 h5 ⟨by decide, rfl⟩ fun K6 h6 => ?_
  refine fz_g (u := t + 2) 0 h6 ⟨by decide, rfl⟩ rfl ?_
  refine fz_fill (n := 10) 2 h6 ⟨by decide, rfl⟩ (by decide) (by omega) fun K7 h7 => ?_
  exact ⟨K7, rfl, _, _, _, h7⟩
end Zt
