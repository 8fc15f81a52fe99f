section Zy
variable {N x : Nat} {M K L : Mem}
theorem ct_new (M : Mem) (hN : 500 < N) : ∃ L, f_CT_init N (m_sz M) (m_new M (20, 0)) = some L ∧ CP M (m_sz M) 12 L := by
  unfold f_CT_init
  have h0 := Fz.start M (20, 0)
  generalize m_sz M = x at *
  generalize m_new M (20, 0) = M1 at *
  refine fz_I h0 400 ⟨by decide, by decide⟩ fun K1 h1 => ?_
  refine fz_R 0 h1 ⟨by decide, rfl⟩ fun K2 h2 => ?_
  refine fz_V 0 h2 ⟨by decide, rfl⟩ fun K3 h3 => ?_
  have A3 : AT K3 x 2 := fun o ho h => by rcases ho with h | h | h | ⟨j, hj, h⟩ <;> omega
  -- now
  obtain ⟨L4, e4, P4⟩ := town_new (N := N) K3 hN
  have s4 : m_sz K3 = x + 2 := h3.1.2
  have T4 := P4.ts
  obtain ⟨-, ⟨kd4, iv4, rv4, z4⟩, -⟩ := P4
  rw [e4, ob]
  rw [s4] at z4 T4 ⊢
  have h4 := h3.comp z4
  have A4 : AT L4 x 43 := A3.fz h3 h4 (by decide) (fun o o1 _ _ => ⟨if_pos o1, if_pos o1, if_pos o1⟩) (fun o ho o1 o2 => by
    have : o = 2 := by rcases ho with h | h | h | ⟨j, hj, h⟩ <;> omega
    rw [this]
    exact T4)
  refine fz_R 0 h4 ⟨by decide, rfl⟩ fun K5 h5 => ?_
  have A5 : AT K5 x 43 := A4.fz h4 h5 (by decide) (fun o _ o2 _ => ⟨rfl, rfl, if_neg o2⟩) (fun o ho o1 o2 => absurd o1 o2)
  -- kept
  obtain ⟨L6, e6, P6⟩ := town_new (N := N) K5 hN
  have s6 : m_sz K5 = x + 43 := h5.1.2
  have T6 := P6.ts
  obtain ⟨-, ⟨kd6, iv6, rv6, z6⟩, -⟩ := P6
  rw [e6, ob]
  rw [s6] at z6 T6 ⊢
  have h6 := h5.comp z6
  have A6 : AT L6 x 84 := A5.fz h5 h6 (by decide) (fun o o1 _ _ => ⟨if_pos o1, if_pos o1, if_pos o1⟩) (fun o ho o1 o2 => by
    have : o = 43 := by rcases ho with h | h | h | ⟨j, hj, h⟩ <;> omega
    rw [this]
    exact T6)
  refine fz_R 0 h6 ⟨by decide, rfl⟩ fun K7 h7 => ?_
  have A7 : AT K7 x 84 := A6.fz h6 h7 (by decide) (fun o _ o2 _ => ⟨rfl, rfl, if_neg o2⟩) (fun o ho o1 o2 => absurd o1 o2)
  refine fz_nR h7 12 ⟨by decide, by decide⟩ fun K8 h8 => ?_
  have A8 : AT K8 x 85 := A7.fz h7 h8 (by decide) (fun o o1 _ _ => ⟨if_neg (Nat.ne_of_lt o1), if_neg (Nat.ne_of_lt o1), if_neg (Nat.ne_of_lt o1)⟩) (fun o ho o1 o2 => by rcases ho with h | h | h | ⟨j, hj, h⟩ <;> omega)
  refine fz_R 0 h8 ⟨by decide, rfl⟩ fun K9 h9 => ?_
  have A9 : AT K9 x 85 := A8.fz h8 h9 (by decide) (fun o _ o2 _ => ⟨rfl, rfl, if_neg o2⟩) (fun o ho o1 o2 => absurd o1 o2)
  -- the draft
  obtain ⟨La, ea, Pa⟩ := town_new (N := N) K9 hN
  have sa : m_sz K9 = x + 85 := h9.1.2
  have Ta := Pa.ts
  obtain ⟨-, ⟨kda, iva, rva, za⟩, -⟩ := Pa
  rw [ea, ob]
  rw [sa] at za Ta ⊢
  have ha := h9.comp za
  have Aa : AT La x 126 := A9.fz h9 ha (by decide) (fun o o1 _ _ => ⟨if_pos o1, if_pos o1, if_pos o1⟩) (fun o ho o1 o2 => by
    have : o = 85 := by rcases ho with h | h | h | ⟨j, hj, h⟩ <;> omega
    rw [this]
    exact Ta)
  refine fz_R 0 ha ⟨by decide, rfl⟩ fun Kb hb => ?_
  have Ab : AT Kb x 126 := Aa.fz ha hb (by decide) (fun o _ o2 _ => ⟨rfl, rfl, if_neg o2⟩) (fun o ho o1 o2 => absurd o1 o2)
  -- the years
  obtain ⟨Lc, ec, kdc, ivc, rvc, zc, ⟨y0, y1, y2, y3, y4, y5⟩, yi, ⟨w1, w2, w3, w4, w5⟩⟩ := years_new Kb
  have sc : m_sz Kb = x + 126 := hb.1.2
  rw [ec, ob]
  rw [sc] at zc w1 w2 w3 w4 w5 ⊢
  have hc := hb.comp zc
  have Ac : AT Lc x 132 := Ab.fz hb hc (by decide) (fun o o1 _ _ => ⟨if_pos o1, if_pos o1, if_pos o1⟩) (fun o ho o1 o2 => by rcases ho with h | h | h | ⟨j, hj, h⟩ <;> omega)
  refine fz_R 0 hc ⟨by decide, rfl⟩ fun Kd hd => ?_
  have Ad : AT Kd x 132 := Ac.fz hc hd (by decide) (fun o _ o2 _ => ⟨rfl, rfl, if_neg o2⟩) (fun o ho o1 o2 => absurd o1 o2)
  -- the seating
  obtain ⟨Le, ee, kde, ive, rve, ze, ⟨u0, u1, u2, u3⟩, ⟨v1, v2, v3⟩⟩ := seating_new Kd
  have se : m_sz Kd = x + 132 := hd.1.2
  rw [ee, ob]
  rw [se] at ze v1 v2 v3 ⊢
  have he := hd.comp ze
  have Ae : AT Le x 136 := Ad.fz hd he (by decide) (fun o o1 _ _ => ⟨if_pos o1, if_pos o1, if_pos o1⟩) (fun o ho o1 o2 => by rcases ho with h | h | h | ⟨j, hj, h⟩ <;> omega)
  refine fz_R 0 he ⟨by decide, rfl⟩ fun Kf hf => ?_
  have Af : AT Kf x 136 := Ae.fz he hf (by decide) (fun o _ o2 _ => ⟨rfl, rfl, if_neg o2⟩) (fun o ho o1 o2 => absurd o1 o2)
  have P : CP M x 0 Kf := ⟨_, _, _, hf, Af, ⟨⟨rfl, rfl, rfl, y0, y1, y2, y3, y4, y5, u0, u1, u2, u3⟩, ⟨rfl, rfl, rfl, rfl, rfl, rfl, rfl⟩, ⟨w1, w2, w3, w4, w5⟩, ⟨v1, v2, v3⟩, ⟨rfl, rfl, rfl, rfl⟩, fun k => rfl, fun g => yi g⟩, fun q hq => by omega⟩
  clear A3 A4 A5 A6 A7 A8 A9 Aa Ab Ac Ad Ae Af hf he hd hc hb ha h9 h8 h7 h6 h5 h4 h3 h2 h1
  refine ct_step 0 (by decide) hN P fun L P => ?_
  refine ct_step 1 (by decide) hN P fun L P => ?_
  refine ct_step 2 (by decide) hN P fun L P => ?_
  refine ct_step 3 (by decide) hN P fun L P => ?_
  refine ct_step 4 (by decide) hN P fun L P => ?_
  refine ct_step 5 (by decide) hN P fun L P => ?_
  refine ct_step 6 (by decide) hN P fun L P => ?_
  refine ct_step 7 (by decide) hN P fun L P => ?_
  refine ct_step 8 (by decide) hN P fun L P => ?_
  refine ct_step 9 (by decide) hN P fun L P => ?_
  refine ct_step 10 (by decide) hN P fun L P => ?_
  refine ct_step 11 (by decide) hN P fun L P => ?_
  exact ⟨L, rfl, P⟩
end Zy
