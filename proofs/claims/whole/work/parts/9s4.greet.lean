section Gm
variable {N en i j k p t w b rd xx D : Nat} {tx : Nat → Int32} {K L : Mem} {f lo hi c : Int32} {r q : Rho}
theorem has_y (h : TXm r tx en) (hen : en ≤ 400) (hN : 500 < N) (m : ML r tx en i) (hw : wdB w = true) (hW : wAt tx en i (s_byt w)) : ∃ q, f_R_has_ N w r = some (1, q) ∧ Lx r q ∧ q.1 12 = -1 ∧ q.1 11 = iN (lwE tx en i) := by
  obtain ⟨q, a1, a2, a3⟩ := has_md h hen hN m hw
  rcases a3 with ⟨b1, b2, b3⟩ | ⟨b1, b2, b3⟩
  · exact ⟨q, b2, a1, a2, b3⟩
  · exact absurd hW b1
theorem has_n (h : TXm r tx en) (hen : en ≤ 400) (hN : 500 < N) (m : ML r tx en i) (hw : wdB w = true) (hW : ¬ wAt tx en i (s_byt w)) : ∃ q, f_R_has_ N w r = some (0, q) ∧ Lx r q ∧ ML q tx en i := by
  obtain ⟨q, a1, a2, a3⟩ := has_md h hen hN m hw
  rcases a3 with ⟨b1, b2, b3⟩ | ⟨b1, b2, b3⟩
  · exact absurd b1 hW
  · exact ⟨q, b2, a1, ML.at0 m.le m.sk a2 b3⟩
theorem has_n2 (h : TXm r tx en) (hen : en ≤ 400) (hN : 500 < N) (m : ML r tx en i) (hw : wdB w = true) (hW : ¬ wAt tx en i (s_byt w)) : ∃ q, f_R_has_ N w r = some (0, q) ∧ Lx r q ∧ ML q tx en i ∧ q.1 11 = iN i := by
  obtain ⟨q, a1, a2, a3⟩ := has_md h hen hN m hw
  rcases a3 with ⟨b1, b2, b3⟩ | ⟨b1, b2, b3⟩
  · exact absurd b1 hW
  · exact ⟨q, b2, a1, ML.at0 m.le m.sk a2 b3, b3⟩
theorem must_y (h : TXm r tx en) (hen : en ≤ 400) (hN : 500 < N) (m : ML r tx en i) (hw : wdB w = true) (hW : wAt tx en i (s_byt w)) : ∃ q, f_R_must N w r = some q ∧ Lx r q ∧ ML q tx en (skN tx en (lwE tx en i)) := by
  obtain ⟨q, a1, a2, a3⟩ := must_md h hen hN m hw
  rcases a3 with ⟨b1, b2, b3⟩ | ⟨b1, b2, b3⟩
  · exact ⟨q, a1, a2, ML.at (lw_b m.le).2 b2 b3⟩
  · exact absurd hW b1
theorem must_n (h : TXm r tx en) (hen : en ≤ 400) (hN : 500 < N) (m : ML r tx en i) (hw : wdB w = true) (hW : ¬ wAt tx en i (s_byt w)) : ∃ q, f_R_must N w r = some q ∧ Lx r q ∧ MD q (iN i) 6 := by
  obtain ⟨q, a1, a2, a3⟩ := must_md h hen hN m hw
  have := m.le
  rcases a3 with ⟨b1, b2, b3⟩ | ⟨b1, b2, b3⟩
  · exact absurd b1 hW
  · exact ⟨q, a1, a2, b2, i, by omega, b3⟩
theorem must_d (hd : r.1 12 ≠ -1) : f_R_must N w r = some r := if_neg hd
theorem fig_y (h : TXm r tx en) (hen : en ≤ 400) (hN : 500 < N) (m : ML r tx en i) {lo : Nat} (hlo : lo ≤ 10000) {hi : Int32} (hg : gdN tx en i lo hi) : ∃ q, f_R_figures N (iN lo) hi r = some (iN (dvN tx i (dgE tx en i)), q) ∧ Lx r q ∧ q.1 12 = -1 ∧ q.1 11 = iN (dgE tx en i) := by
  obtain ⟨v, q, a1, a2, a3⟩ := figures_md h hen hN m lo hlo hi
  rcases a3 with ⟨b1, b2, b3⟩ | ⟨b1, -⟩
  · exact ⟨q, by rw [a1, b2], a2, b3⟩
  · exact absurd hg b1
theorem fig_n (h : TXm r tx en) (hen : en ≤ 400) (hN : 500 < N) (m : ML r tx en i) {lo : Nat} (hlo : lo ≤ 10000) {hi : Int32} (hg : ¬ gdN tx en i lo hi) : ∃ v q, f_R_figures N (iN lo) hi r = some (v, q) ∧ Lx r q ∧ MD q (iN i) 6 := by
  obtain ⟨v, q, a1, a2, a3⟩ := figures_md h hen hN m lo hlo hi
  rcases a3 with ⟨b1, -⟩ | ⟨-, b2, j, b3, b4⟩
  · exact absurd b1 hg
  · exact ⟨v, q, a1, a2, b2, j, by omega, b4⟩
theorem fig_d (hd : r.1 12 ≠ -1) (lo hi : Int32) : f_R_figures N lo hi r = some (0, r) := if_neg hd
theorem sign_y (h : TXm r tx en) (hen : en ≤ 400) (hN : 500 < N) (m : ML r tx en i) (h1 : i < en) (h2 : tx i = c) : ∃ q, f_R_isSign N c r = some (1, q) ∧ Lx r q ∧ q.1 12 = -1 ∧ q.1 11 = iN i := by
  obtain ⟨q, a1, a2, a3, a4⟩ := sign_md h hen hN m c
  rcases a4 with ⟨b1, b2, b3⟩ | ⟨b1, b2⟩
  · exact ⟨q, b3, a1, a2, a3⟩
  · exact absurd (And.intro h1 h2) b1
theorem sign_n (h : TXm r tx en) (hen : en ≤ 400) (hN : 500 < N) (m : ML r tx en i) (h1 : ¬ (i < en ∧ tx i = c)) : ∃ q, f_R_isSign N c r = some (0, q) ∧ Lx r q ∧ ML q tx en i ∧ q.1 11 = iN i := by
  obtain ⟨q, a1, a2, a3, a4⟩ := sign_md h hen hN m c
  rcases a4 with ⟨b1, b2, b3⟩ | ⟨b1, b2⟩
  · exact absurd (And.intro b1 b2) h1
  · exact ⟨q, b2, a1, ML.at0 m.le m.sk a2 a3, a3⟩
/-- the model as the class's reader is -/
def MS (q : Rho) (tx : Nat → Int32) (en i : Nat) (f : Int32) (D : Nat) : Prop := (f = -1 → ML q tx en i) ∧ (f ≠ -1 → MD q f D)
theorem MS.l (m : ML q tx en i) : MS q tx en i (-1) D := ⟨fun _ => m, fun h => absurd rfl h⟩
theorem MS.d (hp : p ≤ en) (hen : en ≤ 400) (m : MD q (iN p) D) : MS q tx en i (iN p) D := ⟨fun h => absurd h (iN_m1 (by omega)), fun _ => m⟩
theorem MD.ne (hp : p ≤ 400) (m : MD q (iN p) D) : q.1 12 ≠ -1 := by
  rw [m.1]
  exact iN_m1 (by omega)
theorem greet_code : ∀ n : Fin 4, f_Manners_codeOf 2 (iN (n.val + 1)) 0 = some (14 + 2 * iN (n.val + 1)) ∧ f_Manners_codeOf 2 (iN (n.val + 1)) 1 = some (14 + 2 * iN (n.val + 1) + 1) ∧ 14 + 2 * iN (n.val + 1) = iN (16 + 2 * n.val) ∧ 14 + 2 * iN (n.val + 1) + 1 = iN (17 + 2 * n.val) := by
  unfold f_Manners_codeOf
  decide +kernel
theorem lw_gt (hi : i ≤ en) (hw : wdB w = true) (h : wAt tx en i (s_byt w)) : i < skN tx en (lwE tx en i) := by
  obtain ⟨-, w2, -⟩ := wdB_p hw
  have h1 := lw_b (tx := tx) hi
  have h2 := sk_b (tx := tx) h1.2
  have := h.1
  omega
end Gm
