/-! what holds all along still holds behind a meeting -/
section Iv
variable {m m2 : Nat → Int32} {p o x y : Nat} {d gx gy : Int32}
theorem IL.cg (h : IL m) (hm : ∀ k, (3 ≤ k ∧ k ≤ 4) ∨ (13 ≤ k ∧ k ≤ 15) ∨ (20 ≤ k ∧ k < 92) → m2 k = m k) : IL m2 := by
  obtain ⟨⟨h1, h2⟩, ⟨h3, h4, h5⟩, h6⟩ := h
  have hb := (nb_c h2 (by decide)).2
  refine ⟨⟨?_, ?_⟩, ⟨?_, ?_, ?_⟩, fun k hk => ?_⟩
  · rw [hm 3 (by omega)]; exact h1
  · rw [hm 4 (by omega)]; exact h2
  · rw [hm 13 (by omega)]; exact h3
  · rw [hm 14 (by omega)]; exact h4
  · rw [hm 15 (by omega)]; exact h5
  · rw [cn_cg (hm 4 (by omega))] at hk
    have hk2 : k < 24 := Nat.lt_of_lt_of_le hk hb
    rw [cn_cg (hm 3 (by omega)), hm (20 + 3 * k) (by omega), hm (21 + 3 * k) (by omega), hm (22 + 3 * k) (by omega)]
    exact h6 k hk
theorem IT.cg (h : IT m) (hm : ∀ k, (5 ≤ k ∧ k ≤ 6) ∨ (372 ≤ k ∧ k < 420) → m2 k = m k) : IT m2 := by
  obtain ⟨h1, h2, h3⟩ := h
  have hb := (nb_c h1 (by decide)).2
  have ha : ∀ k, k < cn m 6 → tA m2 k = tA m k := fun k hk => hm _ (by unfold cn at hk; omega)
  have hbb : ∀ k, k < cn m 6 → tB m2 k = tB m k := fun k hk => hm _ (by unfold cn at hk; omega)
  refine ⟨by rw [hm 6 (by omega)]; exact h1, fun k hk => ?_, fun j k hj hk => ?_⟩
  · rw [cn_cg (hm 6 (by omega))] at hk
    unfold tieOf
    rw [cn_cg (hm 5 (by omega)), ha k hk, hbb k hk]
    exact h2 k hk
  · rw [cn_cg (hm 6 (by omega))] at hk
    rw [ha k hk, hbb k hk, ha j (by omega), hbb j (by omega)]
    exact h3 j k hj hk
theorem hadM_cg (h : ∀ o, o < 10 → mt m2 p o = mt m p o) : hadM m2 p = hadM m p := lp_congr (n := 10) (fun k z hk => by rw [h k hk]) 10 0 0 (by decide)
theorem IP1.cg (h : IP1 m p) (hp : p < 10) (h3 : cn m2 3 = cn m 3) (h5 : cn m2 5 = cn m 5) (hj : ∀ j, j < 8 → pC m2 p j = pC m p j) (ho : ∀ o, o < 10 → mt m2 p o = mt m p o ∧ swC m2 p o = swC m p o) : IP1 m2 p := by
  obtain ⟨⟨a1, a2, a3, a4⟩, a5, a6, a7, a8⟩ := h
  refine ⟨⟨?_, ?_, ?_, ?_⟩, ?_, ?_, fun o hoo => ?_, fun o h9 hoo => ?_⟩
  · rw [h3, hj 0 (by decide)]; exact a1
  · rw [hj 1 (by decide)]; exact a2
  · rw [hj 2 (by decide)]; exact a3
  · rw [hj 3 (by decide)]; exact a4
  · rw [hj 4 (by decide)]; exact a5
  · rw [hj 5 (by decide), hadM_cg fun o hoo => (ho o hoo).1]; exact a6
  · rw [(ho o hoo).2]; exact a7 o hoo
  · rw [(ho o hoo).1, (ho o hoo).2]
    rw [h5] at h9
    exact a8 o h9 hoo
theorem IP.cg (h : IP m) (hm : ∀ k, k = 3 ∨ k = 5 ∨ (92 ≤ k ∧ k < 372) → m2 k = m k) : IP m2 := by
  have hb := (nb_c h.1 (by decide)).2
  refine ⟨by rw [hm 5 (by omega)]; exact h.1, fun p hp => ?_⟩
  rw [cn_cg (hm 5 (by omega))] at hp
  have hp2 : p < 10 := by unfold cn at hp; omega
  exact (h.2 p hp).cg hp2 (cn_cg (hm 3 (by omega))) (cn_cg (hm 5 (by omega))) (fun j hj => hm _ (by omega)) (fun o ho => ⟨hm _ (by omega), hm _ (by omega)⟩)
theorem IG.cg (h : IG m) (hm : ∀ k, k = 12 ∨ (420 ≤ k ∧ k < 900) → m2 k = m k) : IG m2 := by
  obtain ⟨h1, h2⟩ := h
  have hb := (nb_c h1 (by decide)).2
  refine ⟨by rw [hm 12 (by omega)]; exact h1, fun k hk => ?_⟩
  rw [cn_cg (hm 12 (by omega))] at hk
  have hk2 : k < 60 := by unfold cn at hk; omega
  have e : ∀ c, c < 8 → lgc m2 k c = lgc m k c := fun c hc => hm _ (by omega)
  rw [e 1 (by decide), e 2 (by decide), e 3 (by decide), e 4 (by decide)]
  exact h2 k hk
theorem lp_sum (g : Nat → Int32) : ∀ (j k : Nat) (z c : Int32), lp (fun k z => z + g k) j k (z + c) = lp (fun k z => z + g k) j k z + c := by
  intro j
  induction j with
  | zero => intros; rfl
  | succ j ih =>
    intro k z c
    show lp (fun k z => z + g k) j (k + 1) (z + c + g k) = lp (fun k z => z + g k) j (k + 1) (z + g k) + c
    rw [← ih (k + 1) (z + g k) c, Int32.add_assoc, Int32.add_comm c (g k), ← Int32.add_assoc]
theorem lp_sum1 (g h : Nat → Int32) (o : Nat) (he : ∀ k, h k = if k = o then g k + 1 else g k) : ∀ (j k : Nat) (z : Int32), lp (fun k z => z + h k) j k z = lp (fun k z => z + g k) j k z + (if k ≤ o ∧ o < k + j then 1 else 0) := by
  intro j
  induction j with
  | zero =>
    intro k z
    rw [if_neg (by omega), Int32.add_zero]
    rfl
  | succ j ih =>
    intro k z
    show lp (fun k z => z + h k) j (k + 1) (z + h k) = lp (fun k z => z + g k) j (k + 1) (z + g k) + _
    rw [ih, he k]
    by_cases hk : k = o
    · rw [if_pos hk, if_neg (by omega), if_pos (by omega), Int32.add_zero, ← Int32.add_assoc, lp_sum]
    · rw [if_neg hk]
      by_cases h2 : k + 1 ≤ o ∧ o < k + 1 + j
      · rw [if_pos h2, if_pos (by omega)]
      · rw [if_neg h2, if_neg (by omega)]
theorem IP.see (h : IP m) (hp : p < cn m 5) (ho : o < cn m 5) (hd : nx d 32) : IP (seM m p o d) := by
  have hb := (nb_c h.1 (by decide)).2
  have hp2 : p < 10 := by unfold cn at hp; omega
  have ho2 : o < 10 := by unfold cn at ho; omega
  have c5 : cn (seM m p o d) 5 = cn m 5 := cn_cg (seM_out hp2 ho2 (by omega))
  have c3 : cn (seM m p o d) 3 = cn m 3 := cn_cg (seM_out hp2 ho2 (by omega))
  refine ⟨by rw [seM_out hp2 ho2 (by omega)]; exact h.1, fun q hq => ?_⟩
  rw [c5] at hq
  have hq2 : q < 10 := by unfold cn at hq; omega
  by_cases hqp : q = p
  · subst hqp
    obtain ⟨⟨a1, a2, a3, a4⟩, a5, a6, a7, a8⟩ := h.2 q hq
    refine ⟨⟨?_, ?_, ?_, ?_⟩, ?_, ?_, fun x hx => ?_, fun x h9 hx => ?_⟩
    · rw [c3, seM_rest hp2 ho2 (by omega)]; exact a1
    · rw [seM_own hp2 ho2]
      by_cases hc : pC m q 6 = d ∧ pC m q 7 = d
      · rw [if_pos hc]; exact hd
      · rw [if_neg hc]; exact a2
    · rw [seM_rest hp2 ho2 (by omega)]; exact a3
    · rw [seM_rest hp2 ho2 (by omega)]; exact a4
    · rw [seM_rest hp2 ho2 (by omega)]; exact a5
    · rw [seM_had hp2 ho2, a6]
      unfold hadM
      have e := lp_congr (n := 10) (f := fun k z => z + mt (seM m q o d) q k) (g := fun k z => z + (if k = o then mt m q k + 1 else mt m q k)) (fun k z hk => by
        show z + mt (seM m q o d) q k = z + (if k = o then mt m q k + 1 else mt m q k)
        rw [seM_mt hp2 ho2 hp2 hk]
        by_cases hko : k = o
        · rw [if_pos ⟨rfl, hko⟩, if_pos hko, hko]
        · rw [if_neg (fun w => hko w.2), if_neg hko]) 10 0 0 (by decide)
      rw [e, lp_sum1 (fun k => mt m q k) (fun k => if k = o then mt m q k + 1 else mt m q k) o (fun _ => rfl) 10 0 0, if_pos (by omega)]
    · rw [seM_sw hp2 ho2 hp2 hx]
      by_cases hxo : q = q ∧ x = o
      · rw [if_pos hxo]; exact Or.inr hd
      · rw [if_neg hxo]; exact a7 x hx
    · rw [c5] at h9
      rw [seM_mt hp2 ho2 hp2 hx, seM_sw hp2 ho2 hp2 hx, if_neg (by omega), if_neg (by omega)]
      exact a8 x h9 hx
  · exact (h.2 q hq).cg hq2 c3 c5 (fun j hj => seM_oth hp2 ho2 hq2 hj hqp) (fun x hx => by rw [seM_mt hp2 ho2 hq2 hx, seM_sw hp2 ho2 hq2 hx, if_neg (fun w => hqp w.1), if_neg (fun w => hqp w.1)]; exact ⟨rfl, rfl⟩)
theorem clM_pC {dx dy : Int32} (hx : x < 10) (hy : y < 10) {q j : Nat} (hq : q < 10) (hj : j < 8) : pC (clM m x y dx dy) q j = pC m q j ∨ (j = 4 ∧ pC (clM m x y dx dy) q j = 1) := by
  unfold clM
  by_cases hc : (pC m x 4 = 0 ∧ pC m y 4 = 0) ∨ dx >>> (3 &&& 31) = 0 ∨ dy >>> (3 &&& 31) = 0
  · rw [if_pos hc]; exact Or.inl rfl
  · rw [if_neg hc]
    unfold pC
    rw [up1_at, up1_at]
    by_cases h1 : 92 + 8 * q + j = 92 + 8 * y + 4
    · rw [if_pos h1]; exact Or.inr ⟨by omega, rfl⟩
    · rw [if_neg h1]
      by_cases h2 : 92 + 8 * q + j = 92 + 8 * x + 4
      · rw [if_pos h2]; exact Or.inr ⟨by omega, rfl⟩
      · rw [if_neg h2]; exact Or.inl rfl
theorem IP.cold {dx dy : Int32} (h : IP m) (hx : x < 10) (hy : y < 10) : IP (clM m x y dx dy) := by
  have hb := (nb_c h.1 (by decide)).2
  have c5 : cn (clM m x y dx dy) 5 = cn m 5 := cn_cg (clM_out hx hy (by omega))
  have c3 : cn (clM m x y dx dy) 3 = cn m 3 := cn_cg (clM_out hx hy (by omega))
  refine ⟨by rw [clM_out hx hy (by omega)]; exact h.1, fun q hq => ?_⟩
  rw [c5] at hq
  have hq2 : q < 10 := by unfold cn at hq; omega
  obtain ⟨⟨a1, a2, a3, a4⟩, a5, a6, a7, a8⟩ := h.2 q hq
  have e : ∀ j, j < 8 → j ≠ 4 → pC (clM m x y dx dy) q j = pC m q j := fun j hj h4 => (clM_pC hx hy hq2 hj).elim id fun w => absurd w.1 h4
  have em : ∀ o, o < 10 → mt (clM m x y dx dy) q o = mt m q o := fun o ho => clM_out hx hy (by omega)
  have es : ∀ o, o < 10 → swC (clM m x y dx dy) q o = swC m q o := fun o ho => clM_out hx hy (by omega)
  refine ⟨⟨?_, ?_, ?_, ?_⟩, ?_, ?_, fun x hx => ?_, fun x h9 hx => ?_⟩
  · rw [c3, e 0 (by decide) (by decide)]; exact a1
  · rw [e 1 (by decide) (by decide)]; exact a2
  · rw [e 2 (by decide) (by decide)]; exact a3
  · rw [e 3 (by decide) (by decide)]; exact a4
  · rcases clM_pC (m := m) (dx := dx) (dy := dy) hx hy hq2 (show 4 < 8 by decide) with h4 | h4
    · rw [h4]; exact a5
    · exact Or.inr h4.2
  · rw [e 5 (by decide) (by decide), hadM_cg em]; exact a6
  · rw [es x hx]; exact a7 x hx
  · rw [em x hx, es x hx]
    rw [c5] at h9
    exact a8 x h9 hx
theorem Inv.m5 (I : Inv m) (hxy : x < y) (hy : y < cn m 5) (g1 : nx gx 32) (g2 : nx gy 32) : Inv (m5M m x y gx gy) := by
  obtain ⟨i1, i2, i3, i4, i5⟩ := id I
  have hb := I.b5
  have hx2 : x < 10 := by omega
  have hy2 : y < 10 := by omega
  have gdx : nx (mDx m x y gx gy) 32 := by
    unfold mDx
    by_cases h : mY m x y gx gy = iN x
    · rw [if_pos h]; exact g2
    · rw [if_neg h]; exact g1
  have gdy : nx (mDy m x y gx gy) 32 := by
    unfold mDy
    by_cases h : mY m x y gx gy = iN y
    · rw [if_pos h]; exact g1
    · rw [if_neg h]; exact g2
  refine ⟨i1.cg fun k hk => m5M_out hx2 hy2 (by omega) (by omega) (by omega), ?_, i3.cg fun k hk => m5M_out hx2 hy2 (by omega) (by omega) (by omega), ?_, by rw [m5M_out hx2 hy2 (by omega) (by omega) (by omega)]; exact i5⟩
  · have p1 : IP (up1 m 16 (mS m x y gx gy)) := i2.cg fun k hk => up1_ne (by omega)
    have c1 : cn (up1 m 16 (mS m x y gx gy)) 5 = cn m 5 := cn_cg (up1_ne (by decide))
    have p2 : IP (seM (up1 m 16 (mS m x y gx gy)) x y (mDy m x y gx gy)) := p1.see (by omega) (by omega) gdy
    have c2 : cn (seM (up1 m 16 (mS m x y gx gy)) x y (mDy m x y gx gy)) 5 = cn m 5 := (cn_cg (seM_out hx2 hy2 (by omega))).trans c1
    have p3 : IP (m3M m x y gx gy) := (p2.see (p := y) (o := x) (by omega) (by omega) gdx).cold hx2 hy2
    exact p3.cg fun k hk => m5M_lo (by omega) (by omega)
  · have e12 : m5M m x y gx gy 12 = if m 12 + 1 < 60 then m 12 + 1 else 60 := by
      show lgM _ _ 12 = _
      unfold lgM
      rw [if_pos rfl, m4M_ne (by omega), m3M_out hx2 hy2 (by omega) (by omega)]
    have hn := I.n12
    have hb12 := I.b12
    have e13 : m5M m x y gx gy 12 = iN (if cn m 12 + 1 < 60 then cn m 12 + 1 else 60) := by
      rw [e12, hn, iN_s]
      by_cases h8 : cn m 12 + 1 < 60
      · rw [if_pos (show iN (cn m 12 + 1) < 60 from iN_ylt (n := 60) h8 (by decide)), if_pos h8]
      · rw [if_neg (show ¬ iN (cn m 12 + 1) < 60 from iN_nlt (n := 60) (by omega) (by omega)), if_neg h8]
        rfl
    have hle : (if cn m 12 + 1 < 60 then cn m 12 + 1 else 60) ≤ 60 := by
      by_cases h8 : cn m 12 + 1 < 60
      · rw [if_pos h8]; omega
      · rw [if_neg h8]; omega
    have hle2 : (if cn m 12 + 1 < 60 then cn m 12 + 1 else 60) ≤ cn m 12 + 1 := by
      by_cases h8 : cn m 12 + 1 < 60
      · rw [if_pos h8]; omega
      · rw [if_neg h8]; omega
    refine ⟨⟨_, hle, e13⟩, fun k hk => ?_⟩
    have hk2 : k < 60 ∧ k < cn m 12 + 1 := by
      unfold cn at hk
      rw [e13, iN_cl (by omega)] at hk
      unfold cn
      unfold cn at hle2 hle hk
      omega
    by_cases hk0 : k = 0
    · subst hk0
      have eR : ∀ c, c < 8 → lgc (m5M m x y gx gy) 0 c = w8 (m 7) (iN x) (iN y) gx gy (mDx m x y gx gy) (mDy m x y gx gy) (mD m x y gx gy) c := fun c hc => by
        unfold lgc m5M lgM
        rw [if_neg (by omega), if_neg (by omega), if_pos (by omega), show 420 + 8 * 0 + c - 420 = c by omega]
      rw [eR 1 (by decide), eR 2 (by decide), eR 3 (by decide), eR 4 (by decide)]
      exact ⟨⟨x, y, hxy, hy2, rfl, rfl⟩, g1, g2⟩
    · have eR : ∀ c, c < 8 → lgc (m5M m x y gx gy) k c = lgc m (k - 1) c := fun c hc => by
        unfold lgc m5M lgM
        rw [if_neg (by omega), if_neg (by omega), if_neg (by omega), m4M_ne (by omega), m3M_out hx2 hy2 (by omega) (by omega), show 420 + 8 * k + c - 8 = 420 + 8 * (k - 1) + c by omega]
      rw [eR 1 (by decide), eR 2 (by decide), eR 3 (by decide), eR 4 (by decide)]
      exact i4.2 (k - 1) (by omega)
end Iv
/-- a law's greetings are greetings -/
def LwOK (lw : (Nat → Int32) → Int32) : Prop := ∀ F, lw F = -1 ∨ nx (lw F) 32
theorem LawC.ok {M : Mem} {a : Nat} {lw : (Nat → Int32) → Int32} (h : LawC M a lw) : LwOK lw := by
  obtain ⟨c, n, en, cv, h1, h2, h3, h4, h5, h6⟩ := h
  intro F
  rw [h6]
  have key : ∀ (j k : Nat), k + j = n → lwR (m_iv M (a + 1)) (cv F) j k = -1 ∨ nx (lwR (m_iv M (a + 1)) (cv F) j k) 32 := by
    intro j
    induction j with
    | zero => intro k _; exact Or.inl rfl
    | succ j ih =>
      intro k hk
      show (if cv F k = 0 then _ else _) = -1 ∨ nx (if cv F k = 0 then _ else _) 32
      by_cases hc : cv F k = 0
      · rw [if_pos hc]; exact ih (k + 1) (by omega)
      · rw [if_neg hc]; exact Or.inr (h4 k (by omega)).2.2
  exact key n 0 (by omega)
theorem WRel.ok {M : Mem} {t B : Nat} {lw : (Nat → Int32) → Int32} {ln : Int32} (h : WRel M t B lw ln) : LwOK lw := by
  rcases h with ⟨_, h, _⟩ | ⟨a, _, _, h, _⟩
  · exact fun F => Or.inl (h F)
  · exact h.ok
theorem bgM_ok {m : Nat → Int32} {lw : (Nat → Int32) → Int32} {p o : Nat} (I : Inv m) (h : LwOK lw) (hp : p < cn m 5) (ho : o < 10) : nx (bgM lw m p o) 32 := by
  unfold bgM
  rcases h (fcM m p o) with h1 | h1
  · rw [if_pos h1]
    rcases (I.p hp).2.2.2.1 o ho with h2 | h2
    · rw [if_pos h2]; exact (I.p hp).1.2.1
    · by_cases h3 : swC m p o = -1
      · rw [if_pos h3]; exact (I.p hp).1.2.1
      · rw [if_neg h3]; exact h2
  · by_cases h3 : lw (fcM m p o) = -1
    · rw [if_pos h3]
      rcases (I.p hp).2.2.2.1 o ho with h2 | h2
      · rw [if_pos h2]; exact (I.p hp).1.2.1
      · by_cases h3 : swC m p o = -1
        · rw [if_pos h3]; exact (I.p hp).1.2.1
        · rw [if_neg h3]; exact h2
    · rw [if_neg h3]; exact h1
