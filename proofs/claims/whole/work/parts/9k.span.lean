section Sp
variable {N x o t B : Nat} {ps ys : Nat → Nat} {M K L : Mem} {r q : Rho} {a b d e v g l gx gy : Int32} {n p s c k y : Nat} {m m2 : Nat → Int32} {lw : (Nat → Int32) → Int32} {D : Nat → Nat → Prop}
/-! the draft -/
theorem GS.cpD (G : GS N x o ps ys M r) (C : CpR (x + 85) (x + 2) M K D) : GS N x o ps ys K r := by
  obtain ⟨A, ⟨k1, k2, k3, k4⟩, T, g, ⟨p1, p2, p3⟩, f, ⟨i1, i2⟩, ⟨a1, a2, a3⟩⟩ := G
  have td : isT x (x + 85) := Or.inr (Or.inr (Or.inl rfl))
  have bk := isT_b td
  have hx : m_iv K x = m_iv M x := C.2.1 x (by omega)
  refine ⟨C.xs A td, ⟨by rw [C.1.2.1]; exact k1, k2, by rw [C.1.1]; exact k3, fun b hb => by rw [C.1.2.1]; exact k4 b (by rw [← C.1.1]; exact hb)⟩, fun g hg => ?_, C.gt g bk.2.1 (by omega) (by omega), ⟨?_, p2, fun k hk => ?_⟩, ?_, ⟨?_, i2.imp id fun w => ⟨w.1, C.gt w.2 bk.2.1 (by omega) (by omega)⟩⟩, ⟨?_, a2, fun k hk => ?_⟩⟩
  · rw [C.2.1 _ (by omega)]; exact T g hg
  · rw [hx]; exact p1
  · rw [C.2.1 _ (by omega)]; exact p3 k hk
  · rw [hx]; exact f
  · rw [hx]; exact i1
  · rw [hx]; exact a1
  · have hp := A.pl (i := k) (by have := (nb_c a2 (by decide)).2; omega)
    exact C.gt (a3 k hk) bk.2.1 (by omega) (by omega)
theorem GS.frD (G : GS N x o ps ys M r) (F : Fr (x + 85) 41 (x + 628) M K) : GS N x o ps ys K r := by
  obtain ⟨A, ⟨k1, k2, k3, k4⟩, T, g, ⟨p1, p2, p3⟩, f, ⟨i1, i2⟩, ⟨a1, a2, a3⟩⟩ := G
  have hx : m_iv K x = m_iv M x := F.2.1 x (by omega) (by omega)
  refine ⟨A.kr F.1.2.1 F.1.2.2.1 F.1.1, ⟨by rw [F.1.2.1]; exact k1, k2, by rw [F.1.1]; exact k3, fun b hb => by rw [F.1.2.1]; exact k4 b (by rw [← F.1.1]; exact hb)⟩, fun g hg => ?_, g.fr F (by omega) (by omega), ⟨?_, p2, fun k hk => ?_⟩, ?_, ⟨?_, i2.imp id fun w => ⟨w.1, w.2.fr F (by omega) (by omega)⟩⟩, ⟨?_, a2, fun k hk => ?_⟩⟩
  · rw [F.2.1 _ (by omega) (by omega)]; exact T g hg
  · rw [hx]; exact p1
  · rw [F.2.1 _ (by omega) (by omega)]; exact p3 k hk
  · rw [hx]; exact f
  · rw [hx]; exact i1
  · rw [hx]; exact a1
  · have hp := A.pl (i := k) (by have := (nb_c a2 (by decide)).2; omega)
    exact (a3 k hk).fr F (by omega) (by omega)
/-- the draft made anew -/
theorem GS.draft (G : GS N x o ps ys M r) (hN : 500 < N) : ∃ K, f_Town_copyFrom N (x + 85) (x + 2) M = some K ∧ GS N x o ps ys K r ∧ GT N (x + 628) K (x + 85) (r.2 1) := by
  obtain ⟨K, h1, C, h2⟩ := f_Town_copyFrom_eq G.A.td G.A.tn (by omega) hN G.nw.cold
  exact ⟨K, h1, G.cpD C, C.gtS h2 G.nw (by omega)⟩
/-! meetings cost little -/
theorem meM_nb (I : Inv m) (hl : LwOK lw) (hxy : p < s) (hs : s < cn m 5) : nb (meM lw m p s).1 400 := by
  have h5 := I.b5
  obtain ⟨u, hu, e⟩ := costM_nb I (bgM_ok I hl (show p < cn m 5 by omega) (show s < 10 by omega)) (bgM_ok I hl hs (show p < 10 by omega))
  show nb (mD m p s (bgM lw m p s) (bgM lw m s p)) 400
  unfold mD
  rw [e]
  by_cases h : mY m p s (bgM lw m p s) (bgM lw m s p) = -1
  · rw [if_pos h]
    exact ⟨u, hu, rfl⟩
  · rw [if_neg h, show iN u / 2 = iN (u / 2) from iN_div (b := 2) (by omega) (by decide)]
    exact ⟨u / 2, by omega, rfl⟩
theorem ties_nb (hl : LwOK lw) : ∀ (j k : Nat) (c : Int32) (m : Nat → Int32) (b : Nat), k + j = cn m 6 → Inv m → nb c b → b + 400 * j < 2147483648 → nb (lp (tieS lw) j k (c, m)).1 (b + 400 * j) := by
  intro j
  induction j with
  | zero => intro k c m b _ _ h _; exact h
  | succ j ih =>
    intro k c m b hk I h hb
    obtain ⟨u, w, -, -, -, -, h1, h2, -⟩ := I.xy (k := k) (by omega)
    have h3 := tieS_inv I hl (k := k) (by omega) c
    obtain ⟨c1, hc1, rfl⟩ := h
    obtain ⟨c2, hc2, e2⟩ := meM_nb I hl h1 h2
    show nb (lp (tieS lw) j (k + 1) (tieS lw k (iN c1, m))).1 (b + 400 * (j + 1))
    have h4 := ih (k + 1) (tieS lw k (iN c1, m)).1 (tieS lw k (iN c1, m)).2 (b + 400) (by rw [h3.2.c (by decide)]; omega) h3.1 (by
      rw [tieS_eq]
      show nb (iN c1 + (meM lw m (tX m k) (tY m k)).1) (b + 400)
      rw [e2, iN_add]
      exact ⟨_, by omega, rfl⟩) (by omega)
    rw [show b + 400 * (j + 1) = b + 400 + 400 * j by omega]
    exact h4
theorem goM_nb (I : Inv m) (hl : LwOK lw) (hn : n ≤ 100) : nb (goM lw n (0, m)).1 960000 := by
  have key : ∀ (j k : Nat) (c : Int32) (m : Nat → Int32) (b : Nat), b + 9600 * j ≤ 960000 → Inv m → nb c b → nb (lp (fun _ z => rndM lw z) j k (c, m)).1 (b + 9600 * j) := by
    intro j
    induction j with
    | zero => intro k c m b _ _ h; exact h
    | succ j ih =>
      intro k c m b hj I h
      have h6 := I.b6
      obtain ⟨I2, L2⟩ := rndM_inv I hl c
      have h1 := ties_nb hl (cn m 6) 0 c m b (by omega) I h (by omega)
      have h2 : nb (rndM lw (c, m)).1 (b + 9600) := by
        rw [rndM_eq]
        obtain ⟨u, hu, e⟩ := h1
        exact ⟨u, by omega, e⟩
      show nb (lp (fun _ z => rndM lw z) j (k + 1) (rndM lw (c, m))).1 (b + 9600 * (j + 1))
      rw [show b + 9600 * (j + 1) = b + 9600 + 9600 * j by omega]
      exact ih (k + 1) _ _ _ (by omega) I2 h2
  have h := key n 0 0 m 0 (by omega) I ⟨0, by decide, rfl⟩
  obtain ⟨u, hu, e⟩ := h
  exact ⟨u, by omega, e⟩
end Sp
