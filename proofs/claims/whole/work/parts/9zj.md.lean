section Zm
variable {N t c k o j n B ci : Nat} {M0 M K L : Mem} {v : Int32} {kd : Nat → Nat × Nat} {iv : Nat → Nat → Int32} {rv : Nat → Nat → Option Nat}
theorem fz_st {f : Mem → Option Mem} {Q : Mem → Prop} (o k : Nat) (h : Fz M0 M t c kd iv rv) (ho : o < c ∧ kd o = (1, n)) (hk : k < n ∧ n ≤ 20000) (g : ∀ K, Fz M0 K t c kd (ap iv o (up1 (iv o) k v)) rv → ∃ L, f K = some L ∧ Q L) : ∃ L, (ast M (t + o) (iN k) v).bind f = some L ∧ Q L := by
  rw [ast_iN (k := k) (n := n) (by rw [h.kk ho.1]; exact ho.2) hk.1 hk.2, ob]
  exact g _ (h.setI ho.1 k v)
/-- the model as made -/
theorem md_new (M : Mem) : ∃ L, f_R_init (m_sz M) (m_new M (21, 0)) = some L ∧ ∃ kd iv rv, Fz M L (m_sz M) 15 kd iv rv ∧ (∀ k, iv 1 k = mZ k) ∧ (iv 0 3 = 0 ∧ iv 0 6 = 0 ∧ iv 0 8 = 0 ∧ iv 0 12 = -1 ∧ iv 0 15 = 0 ∧ iv 0 16 = 0) ∧ ∀ k, iv 5 k = 0 := by
  unfold f_R_init
  have h0 := Fz.start M (21, 0)
  generalize m_sz M = t at *
  refine fz_I h0 1300 ⟨by decide, by decide⟩ fun K h => ?_
  refine fz_R 0 h ⟨by decide, rfl⟩ fun K h => ?_
  refine fz_I h 1300 ⟨by decide, by decide⟩ fun K h => ?_
  refine fz_R 0 h ⟨by decide, rfl⟩ fun K h => ?_
  refine fz_I h 900 ⟨by decide, by decide⟩ fun K h => ?_
  refine fz_R 0 h ⟨by decide, rfl⟩ fun K h => ?_
  refine fz_I h 10800 ⟨by decide, by decide⟩ fun K h => ?_
  refine fz_R 0 h ⟨by decide, rfl⟩ fun K h => ?_
  refine fz_I h 400 ⟨by decide, by decide⟩ fun K h => ?_
  refine fz_R 0 h ⟨by decide, rfl⟩ fun K h => ?_
  refine fz_V 0 h ⟨by decide, rfl⟩ fun K h => ?_
  refine fz_I h 6 ⟨by decide, by decide⟩ fun K h => ?_
  refine fz_R 0 h ⟨by decide, rfl⟩ fun K h => ?_
  refine fz_I h 10 ⟨by decide, by decide⟩ fun K h => ?_
  refine fz_R 0 h ⟨by decide, rfl⟩ fun K h => ?_
  refine fz_I h 10 ⟨by decide, by decide⟩ fun K h => ?_
  refine fz_R 0 h ⟨by decide, rfl⟩ fun K h => ?_
  refine fz_I h 10 ⟨by decide, by decide⟩ fun K h => ?_
  refine fz_R 0 h ⟨by decide, rfl⟩ fun K h => ?_
  refine fz_I h 32 ⟨by decide, by decide⟩ fun K h => ?_
  refine fz_R 0 h ⟨by decide, rfl⟩ fun K h => ?_
  refine fz_I h 8 ⟨by decide, by decide⟩ fun K h => ?_
  refine fz_R 0 h ⟨by decide, rfl⟩ fun K h => ?_
  refine fz_I h 8 ⟨by decide, by decide⟩ fun K h => ?_
  refine fz_R 0 h ⟨by decide, rfl⟩ fun K h => ?_
  refine fz_I h 1024 ⟨by decide, by decide⟩ fun K h => ?_
  refine fz_R 0 h ⟨by decide, rfl⟩ fun K h => ?_
  refine fz_I h 100 ⟨by decide, by decide⟩ fun K h => ?_
  refine fz_R 0 h ⟨by decide, rfl⟩ fun K h => ?_
  refine fz_g (u := t + 1) 0 h ⟨by decide, rfl⟩ rfl ?_
  refine fz_st (n := 1300) 1 1 h ⟨by decide, rfl⟩ ⟨by decide, by decide⟩ fun K h => ?_
  refine fz_g (u := t + 1) 0 h ⟨by decide, rfl⟩ rfl ?_
  refine fz_st (n := 1300) 1 16 h ⟨by decide, rfl⟩ ⟨by decide, by decide⟩ fun K h => ?_
  refine fz_g (u := t + 1) 0 h ⟨by decide, rfl⟩ rfl ?_
  refine fz_st (n := 1300) 1 13 h ⟨by decide, rfl⟩ ⟨by decide, by decide⟩ fun K h => ?_
  refine fz_g (u := t + 1) 0 h ⟨by decide, rfl⟩ rfl ?_
  refine fz_st (n := 1300) 1 14 h ⟨by decide, rfl⟩ ⟨by decide, by decide⟩ fun K h => ?_
  refine fz_g (u := t + 1) 0 h ⟨by decide, rfl⟩ rfl ?_
  refine fz_st (n := 1300) 1 15 h ⟨by decide, rfl⟩ ⟨by decide, by decide⟩ fun K h => ?_
  exact ⟨K, rfl, _, _, _, h, fun k => rfl, ⟨rfl, rfl, rfl, rfl, rfl, rfl⟩, fun k => rfl⟩
end Zm
