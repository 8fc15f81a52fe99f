/-! the model's rows copied -/
def cpR (a oa b ob n : Nat) (r : Rho) : Rho := (r.1, fun j => if j = b then (fun i => if ob ≤ i ∧ i < ob + n then r.2 a (oa + (i - ob)) else r.2 b i) else r.2 j)
theorem cpR_0 (a oa b ob : Nat) (r : Rho) : cpR a oa b ob 0 r = r := by
  refine Prod.ext rfl (funext fun j => ?_)
  show (if j = b then (fun i => if ob ≤ i ∧ i < ob + 0 then r.2 a (oa + (i - ob)) else r.2 b i) else r.2 j) = r.2 j
  by_cases h : j = b
  · rw [if_pos h, h]
    funext i
    rw [if_neg (by omega)]
  · rw [if_neg h]
theorem cpR_own (a oa b ob n : Nat) (r : Rho) (i : Nat) : (cpR a oa b ob n r).2 b i = if ob ≤ i ∧ i < ob + n then r.2 a (oa + (i - ob)) else r.2 b i := by
  show (if b = b then (fun i => if ob ≤ i ∧ i < ob + n then r.2 a (oa + (i - ob)) else r.2 b i) else r.2 b) i = _
  rw [if_pos rfl]
theorem cpR_ne {a oa b ob n : Nat} {r : Rho} {j : Nat} (h : j ≠ b) : (cpR a oa b ob n r).2 j = r.2 j := if_neg h
theorem cpR_src {a oa b ob n : Nat} {r : Rho} (hab : a ≠ b ∨ ob ≤ oa) : (cpR a oa b ob n r).2 a (oa + n) = r.2 a (oa + n) := by
  by_cases h : a = b
  · subst h
    rw [cpR_own, if_neg (by omega)]
  · rw [cpR_ne h]
theorem cpR_step {a oa b ob n : Nat} {r : Rho} (hab : a ≠ b ∨ ob ≤ oa) : r_st (cpR a oa b ob n r) b (ob + n) ((cpR a oa b ob n r).2 a (oa + n)) = cpR a oa b ob (n + 1) r := by
  rw [cpR_src hab]
  refine Prod.ext rfl (funext fun j => ?_)
  by_cases h : j = b
  · subst h
    rw [st_own]
    funext i
    rw [up1_at, cpR_own, cpR_own]
    by_cases h1 : i = ob + n
    · rw [if_pos h1, if_pos (by omega), h1, show ob + n - ob = n by omega]
    · rw [if_neg h1]
      by_cases h2 : ob ≤ i ∧ i < ob + n
      · rw [if_pos h2, if_pos (by omega)]
      · rw [if_neg h2, if_neg (by omega)]
  · rw [st_row h, cpR_ne h, cpR_ne h]
theorem run_cp {α : Type} {F : Nat → Nat → Rho → α} {fin : Rho → α} {n a oa b ob : Nat} {r : Rho} (hab : a ≠ b ∨ ob ≤ oa) (hend : ∀ fuel z, z.1 = r.1 → F (fuel + 1) n z = fin z) (hstep : ∀ fuel k z, k < n → z.1 = r.1 → F (fuel + 1) k z = F fuel (k + 1) (r_st z b (ob + k) (z.2 a (oa + k)))) {fuel : Nat} (hf : n < fuel) : F fuel 0 r = fin (cpR a oa b ob n r) := by
  have key : ∀ (j k fuel : Nat), k + j = n → j < fuel → F fuel k (cpR a oa b ob k r) = fin (cpR a oa b ob n r) := by
    intro j
    induction j with
    | zero =>
      intro k fuel hk hf
      obtain ⟨fu, rfl⟩ : ∃ fu, fuel = fu + 1 := ⟨fuel - 1, by omega⟩
      obtain rfl : k = n := by omega
      exact hend fu _ rfl
    | succ j ih =>
      intro k fuel hk hf
      obtain ⟨fu, rfl⟩ : ∃ fu, fuel = fu + 1 := ⟨fuel - 1, by omega⟩
      rw [hstep fu k (cpR a oa b ob k r) (by omega) rfl, cpR_step hab]
      exact ih (k + 1) fu (by omega) (by omega)
  have h := key n 0 fuel (by omega) hf
  rw [cpR_0] at h
  exact h
section Ac
variable {N x o B t s u : Nat} {ps ys : Nat → Nat} {M K : Mem} {r q : Rho} {m m2 : Nat → Int32} {D : Nat → Nat → Prop}
theorem f_R_image_eq (hN : 20000 ≤ N) : f_R_image N r = some (r_set (cpR 1 0 2 0 1300 (r_set r 0 0)) 3 1) := by
  unfold f_R_image
  refine (run_cp (F := fun fuel k z => f_R_image_7 N fuel (iN k) z) (fin := fun z => some (r_set z 3 1)) (n := 1300) (a := 1) (oa := 0) (b := 2) (ob := 0) (Or.inl (by decide)) (fun fuel z _ => ?_) (fun fuel k z hk _ => ?_) (by omega))
  · show f_R_image_7 N (fuel + 1) (iN 1300) z = _
    rw [f_R_image_7, if_pos (show (1300 : Int32) ≤ iN 1300 from i_le_rfl 1300), show rpZ z 3 1 = some (r_set z 3 1) from if_pos (Or.inr rfl), ob]
  · show f_R_image_7 N (fuel + 1) (iN k) z = _
    rw [f_R_image_7, if_neg (show ¬ (1300 : Int32) ≤ iN k from iN_nle (n := 1300) hk (by decide)), rld1 hk, ob, rst2 hk, ob, iN_s, Nat.zero_add]
theorem f_R_back_1 (hN : 20000 ≤ N) (h : r.1 3 ≠ 0) : f_R_back N r = some (1, r_set (cpR 2 0 1 0 1300 (r_set r 0 0)) 6 0) := by
  unfold f_R_back
  rw [if_neg (by rw [set_f (by decide)]; exact h)]
  refine (run_cp (F := fun fuel k z => f_R_back_16 N fuel (iN k) z) (fin := fun z => some (1, r_set z 6 0)) (n := 1300) (a := 2) (oa := 0) (b := 1) (ob := 0) (Or.inl (by decide)) (fun fuel z _ => ?_) (fun fuel k z hk _ => ?_) (by omega))
  · show f_R_back_16 N (fuel + 1) (iN 1300) z = _
    rw [f_R_back_16, if_pos (show (1300 : Int32) ≤ iN 1300 from i_le_rfl 1300)]
  · show f_R_back_16 N (fuel + 1) (iN k) z = _
    rw [f_R_back_16, if_neg (show ¬ (1300 : Int32) ≤ iN k from iN_nle (n := 1300) hk (by decide)), rld2 hk, ob, rst1 hk, ob, iN_s, Nat.zero_add]
theorem f_R_undo_1 {n : Nat} (hN : 20000 ≤ N) (hn : n < 12) (h : r.1 6 = iN (n + 1)) : f_R_undo N r = some (1, cpR 5 (900 * n) 1 0 900 (r_set (r_set r 0 0) 6 (iN n))) := by
  unfold f_R_undo
  have e : (r_set r 0 0).1 6 = iN (n + 1) := (set_f (by decide)).trans h
  rw [e, if_neg (show ¬ iN (n + 1) = 0 from iN_ne (b := 0) (by omega) (by omega) (by decide)), show iN (n + 1) - 1 = iN n from iN_sub (a := n + 1) (b := 1) (by omega)]
  refine (run_cp (F := fun fuel k z => f_R_undo_26 N fuel (iN k) z) (fin := fun z => some (1, z)) (n := 900) (a := 5) (oa := 900 * n) (b := 1) (ob := 0) (Or.inl (by decide)) (fun fuel z _ => ?_) (fun fuel k z hk hz => ?_) (by omega))
  · show f_R_undo_26 N (fuel + 1) (iN 900) z = _
    rw [f_R_undo_26, if_pos (show (900 : Int32) ≤ iN 900 from i_le_rfl 900)]
  · show f_R_undo_26 N (fuel + 1) (iN k) z = _
    have e6 : z.1 6 = iN n := by rw [hz, set_s]
    rw [f_R_undo_26, if_neg (show ¬ (900 : Int32) ≤ iN k from iN_nle (n := 900) hk (by decide)), e6, show (900 : Int32) * iN n + iN k = iN (900 * n + k) by rw [q900, iN_mul, iN_add], rld5 (by omega), ob, rst1 (by omega), ob, iN_s, Nat.zero_add]
theorem f_R_remembers_50_eq {n : Nat} (hN : 20000 ≤ N) (hn : n < 12) (h : r.1 6 = iN n) : f_R_remembers_50 N r = some (r_set (cpR 1 0 5 (900 * n) 900 r) 6 (iN (n + 1))) := by
  unfold f_R_remembers_50
  refine (run_cp (F := fun fuel k z => f_R_remembers_52 N fuel (iN k) z) (fin := fun z => some (r_set z 6 (iN (n + 1)))) (n := 900) (a := 1) (oa := 0) (b := 5) (ob := 900 * n) (Or.inl (by decide)) (fun fuel z hz => ?_) (fun fuel k z hk hz => ?_) (by omega))
  · show f_R_remembers_52 N (fuel + 1) (iN 900) z = _
    rw [f_R_remembers_52, if_pos (show (900 : Int32) ≤ iN 900 from i_le_rfl 900), hz, h, iN_s]
  · show f_R_remembers_52 N (fuel + 1) (iN k) z = _
    have e6 : z.1 6 = iN n := by rw [hz, h]
    rw [f_R_remembers_52, if_neg (show ¬ (900 : Int32) ≤ iN k from iN_nle (n := 900) hk (by decide)), rld1 (by omega), ob, e6, show (900 : Int32) * iN n + iN k = iN (900 * n + k) by rw [q900, iN_mul, iN_add], rst5 (by omega), ob, iN_s, Nat.zero_add]
theorem f_R_remembers_12 (hN : 20000 ≤ N) (h : r.1 6 = iN 12) : f_R_remembers N r = f_R_remembers_50 N (r_set (cpR 5 900 5 0 9900 r) 6 (iN 11)) := by
  unfold f_R_remembers
  rw [if_pos (show r.1 6 = 12 from h)]
  refine (run_cp (F := fun fuel k z => f_R_remembers_11 N fuel (iN k) z) (fin := fun z => f_R_remembers_50 N (r_set z 6 (iN 11))) (n := 9900) (a := 5) (oa := 900) (b := 5) (ob := 0) (Or.inr (by decide)) (fun fuel z hz => ?_) (fun fuel k z hk hz => ?_) (by omega))
  · show f_R_remembers_11 N (fuel + 1) (iN 9900) z = _
    rw [f_R_remembers_11, if_pos (show (9900 : Int32) ≤ iN 9900 from i_le_rfl 9900), hz, h]
    rfl
  · show f_R_remembers_11 N (fuel + 1) (iN k) z = _
    rw [f_R_remembers_11, if_neg (show ¬ (9900 : Int32) ≤ iN k from iN_nle (n := 9900) hk (by decide)), show iN k + 900 = iN (900 + k) by rw [q900, iN_add, Nat.add_comm], rld5 (by omega), ob, rst5 (by omega), ob, iN_s, Nat.zero_add]
/-! a row that says the same -/
theorem TRel.cgm (h : TRel M t m) (I : Inv m) (hm : ∀ k, k < 1300 → m2 k = m k) : TRel M t m2 := by
  have b4 := I.b4
  have b6 := I.b6
  have b12 := I.b12
  have c3 : cn m2 3 = cn m 3 := cn_cg (hm 3 (by decide))
  have c4 : cn m2 4 = cn m 4 := cn_cg (hm 4 (by decide))
  have c6 : cn m2 6 = cn m 6 := cn_cg (hm 6 (by decide))
  have c12 : cn m2 12 = cn m 12 := cn_cg (hm 12 (by decide))
  refine ⟨⟨?_, ?_, ?_, fun k hk => ?_⟩, ?_, fun q hq => (h.P hq).cg hq I.b6 (fun _ _ _ => rfl) (fun k hk => hm k (by omega)), fun k hk => ?_, ?_, ?_⟩
  · rw [hm 3 (by decide)]; exact h.v3
  · rw [hm 4 (by decide)]; exact h.v4
  · rw [hm 13 (by decide), hm 14 (by decide), hm 15 (by decide)]; exact h.1.2.2.1
  · rw [c4] at hk
    rw [hm _ (by omega), hm _ (by omega), hm _ (by omega)]
    exact h.hab hk
  · unfold CRel
    rw [hm 5 (by decide), hm 6 (by decide), hm 0 (by decide), hm 16 (by decide), hm 7 (by decide), hm 8 (by decide), hm 9 (by decide), hm 10 (by decide), hm 11 (by decide)]
    exact h.C
  · rw [c6] at hk
    unfold tA tB
    rw [hm _ (by omega), hm _ (by omega)]
    exact h.E k hk
  · rw [hm 12 (by decide)]; exact h.G.1
  · obtain ⟨w, hw, e1, e2⟩ := h.G.2
    refine ⟨w, hw, e1, fun k c hk hc => ?_⟩
    rw [c12] at hk
    rw [e2 k c hk hc]
    exact (hm _ (by omega)).symm
theorem Inv.cgm (I : Inv m) (hm : ∀ k, k < 1300 → m2 k = m k) : Inv m2 := by
  obtain ⟨i1, i2, i3, i4, i5⟩ := I
  exact ⟨i1.cg fun k hk => hm k (by omega), i2.cg fun k hk => hm k (by omega), i3.cg fun k hk => hm k (by omega), i4.cg fun k hk => hm k (by omega), by rw [hm 0 (by decide)]; exact i5⟩
theorem GT.cgm (h : GT N B M t m) (hm : ∀ k, k < 1300 → m2 k = m k) : GT N B M t m2 := by
  obtain ⟨h1, h2, lw, h3, h4⟩ := h
  exact ⟨h1.cgm hm, h2.cgm h1 hm, lw, by rw [hm 1 (by decide)]; exact h3, h4.cg (hm 1 (by decide)) (hm 2 (by decide)) (fun k hk => hm _ (by omega))⟩
/-! copies of towns and the whole state -/
def isT (x t : Nat) : Prop := t = x + 2 ∨ t = x + 43 ∨ t = x + 85 ∨ ∃ i, i < 12 ∧ t = x + 136 + 41 * i
theorem isT_b (h : isT x t) : x + 2 ≤ t ∧ t + 41 ≤ x + 628 ∧ (t + 41 ≤ x + 84 ∨ (x + 85 ≤ t ∧ t + 41 ≤ x + 126) ∨ x + 136 ≤ t) := by
  rcases h with h | h | h | ⟨i, hi, h⟩ <;> omega
theorem isT_d (h : isT x t) (k : isT x u) : t = u ∨ t + 41 ≤ u ∨ u + 41 ≤ t := by
  rcases h with h | h | h | ⟨i, hi, h⟩ <;> rcases k with k | k | k | ⟨j, hj, k⟩ <;> omega
theorem isT_ne {p q : Nat} (h : p ≠ q) (hp : p < 12) (hq : q < 12) : x + 136 + 41 * p + 41 ≤ x + 136 + 41 * q ∨ x + 136 + 41 * q + 41 ≤ x + 136 + 41 * p := by omega
theorem CpR.lawC {a : Nat} {lw : (Nat → Int32) → Int32} (C : CpR t s M K D) (ht : t + 41 ≤ B) (ha : B ≤ a) (L : LawC M a lw) : LawC K a lw ∧ m_iv K a 0 = m_iv M a 0 :=
  ⟨L.cong (fun b _ _ => by rw [C.1.2.1]) (funext fun j => C.2.2.1 a j (by omega)) fun b h1 h2 _ => C.2.1 b (by omega), by rw [C.2.1 a (by omega)]⟩
theorem CpR.gt (C : CpR t s M K D) (G : GT N B M u m) (ht : t + 41 ≤ B) (hu : u + 41 ≤ B) (hd : t + 41 ≤ u ∨ u + 41 ≤ t) : GT N B K u m := by
  obtain ⟨h1, h2, lw, h3, h4⟩ := G
  refine ⟨h1, h2.frame fun b _ _ => C.2.1 b (by omega), lw, ?_, h4⟩
  rcases h3 with ⟨a1, a2⟩ | ⟨a, a1, a2, a3, a4⟩
  · exact Or.inl ⟨by rw [C.2.2.1 u 6 (by omega)]; exact a1, a2⟩
  · exact Or.inr ⟨a, by rw [C.2.2.1 u 6 (by omega)]; exact a1, a2, (C.lawC ht a2 a3).1, (C.lawC ht a2 a3).2.trans a4⟩
theorem CpR.gtS (C : CpR t s M K RlA) (e6 : m_rv K t 6 = m_rv M s 6) (G : GT N B M s m) (ht : t + 41 ≤ B) : GT N B K t m := by
  obtain ⟨h1, h2, lw, h3, h4⟩ := G
  refine ⟨h1, h2.copied h1 C, lw, ?_, h4⟩
  rcases h3 with ⟨a1, a2⟩ | ⟨a, a1, a2, a3, a4⟩
  · exact Or.inl ⟨by rw [e6]; exact a1, a2⟩
  · exact Or.inr ⟨a, by rw [e6]; exact a1, a2, (C.lawC ht a2 a3).1, (C.lawC ht a2 a3).2.trans a4⟩
theorem CpR.xs (C : CpR t s M K D) (A : XSk M x ps ys) (ht : isT x t) : XSk K x ps ys := by
  have hb := isT_b ht
  have hk : m_kd K = m_kd M := C.1.2.1
  have hr : ∀ b, b ≠ t → m_rv K b = m_rv M b := fun b h => funext fun j => C.2.2.1 b j (by omega)
  have sh : ∀ {u : Nat}, isT x u → Shape M u → Shape K u := fun {u} hu S => S.of (fun b _ _ => by rw [hk]) (fun b j h1 h2 h3 => C.2.2.1 b j (by
    have := isT_d ht hu
    omega))
  unfold XSk at A ⊢
  obtain ⟨a1, a2, ⟨a3, a4, a5, a6⟩, a7, a8, a9, a10, a11⟩ := A
  rw [hk, hr x (by omega), hr (x + 84) (by omega), hr (x + 126) (by omega), hr (x + 132) (by omega), C.1.1]
  exact ⟨a1, a2, ⟨sh (Or.inl rfl) a3, sh (Or.inr (Or.inl rfl)) a4, sh (Or.inr (Or.inr (Or.inl rfl))) a5, fun i hi => sh (Or.inr (Or.inr (Or.inr ⟨i, hi, rfl⟩))) (a6 i hi)⟩, a7, a8, a9, a10, a11⟩
theorem GT.cold (h : GT N B M s m) : ∀ i, i < 10 → m_iv M (s + 11 + 3 * i) 4 = 0 ∨ m_iv M (s + 11 + 3 * i) 4 = 1 := by
  obtain ⟨I, R, -⟩ := h
  intro i hi
  by_cases h : i < cn m 5
  · rw [R.q4 I h]
    exact (I.p h).2.1
  · exact Or.inl ((R.P hi).2 (by omega)).1
end Ac
