/-! one town is copied into another one -/
theorem cpy_at (M : Mem) (a b n : Nat) : m_iv (m_cpy M a 0 b 0 n) b = fun k => if k < n then m_iv M a k else m_iv M b k := by
  funext k
  show (if b = b then va_cpy (m_iv M a) (m_iv M b) 0 0 n else m_iv M b) k = _
  rw [if_pos rfl]
  unfold va_cpy
  by_cases h : k < n
  · rw [if_pos (by omega), if_pos h]
    congr 1
    omega
  · rw [if_neg (by omega), if_neg h]
theorem cpy_ne {M : Mem} {a b n c : Nat} (h : c ≠ b) : m_iv (m_cpy M a 0 b 0 n) c = m_iv M c := if_neg h
theorem acp_eq {M : Mem} {a b n : Nat} (h1 : m_kd M a = (1, n)) (h2 : m_kd M b = (1, n)) (hn : n ≤ 20000) {z : Int32} (hz : z = iN n) : acp M a 0 b 0 z = some (m_cpy M a 0 b 0 n) := by
  subst hz
  unfold acp
  rw [h1, h2, iN_cl (by omega)]
  exact if_pos ⟨rfl, rfl, by decide, by decide, iN_nn (by omega), by show 0 + n ≤ n; omega, by show 0 + n ≤ n; omega⟩
/-- what a copying has come to: the pairs in D are done -/
def CpR (t s : Nat) (M0 M : Mem) (D : Nat → Nat → Prop) : Prop :=
  (m_sz M = m_sz M0 ∧ m_kd M = m_kd M0 ∧ m_lv M = m_lv M0) ∧ (∀ b, ¬ (t ≤ b ∧ b < t + 41) → m_iv M b = m_iv M0 b) ∧ (∀ b j, ¬ (b = t ∧ j = 6) → m_rv M b j = m_rv M0 b j) ∧ ∀ o j, o < 41 → D o j → m_iv M (t + o) j = m_iv M0 (s + o) j
section Cp
variable {t s : Nat} {M0 M : Mem} {D E : Nat → Nat → Prop}
theorem CpR.sh (h : CpR t s M0 M D) (S : Shape M0 t) : Shape M t := S.of (fun b _ _ => by rw [h.1.2.1]) (fun b j _ _ h3 => h.2.2.1 b j h3)
theorem CpR.sh2 (h : CpR t s M0 M D) (hd : t + 41 ≤ s ∨ s + 41 ≤ t) (S : Shape M0 s) : Shape M s := S.of (fun b _ _ => by rw [h.1.2.1]) (fun b j h1 h2 _ => h.2.2.1 b j (by omega))
theorem CpR.sub (h : CpR t s M0 M D) (k : ∀ o j, o < 41 → E o j → D o j) : CpR t s M0 M E := ⟨h.1, h.2.1, h.2.2.1, fun o j ho hj => h.2.2.2 o j ho (k o j ho hj)⟩
theorem CpR.src (h : CpR t s M0 M D) (hd : t + 41 ≤ s ∨ s + 41 ≤ t) {o : Nat} (ho : o < 41) : m_iv M (s + o) = m_iv M0 (s + o) := h.2.1 _ (by omega)
theorem CpR.set (h : CpR t s M0 M D) {a o j : Nat} {v : Int32} (ho : o < 41) (ha : a = t + o) (hv : v = m_iv M0 (s + o) j) : CpR t s M0 (m_setI M a j v) (fun x y => D x y ∨ (x = o ∧ y = j)) := by
  subst ha
  refine ⟨h.1, fun b hb => (iv_ne (by omega)).trans (h.2.1 b hb), h.2.2.1, fun x y hx hxy => ?_⟩
  rw [iv_setI]
  by_cases hc : t + x = t + o ∧ y = j
  · rw [if_pos hc, hv, show x = o by omega, hc.2]
  · rw [if_neg hc]
    rcases hxy with hxy | hxy
    · exact h.2.2.2 x y hx hxy
    · exact absurd ⟨by rw [hxy.1], hxy.2⟩ hc
theorem CpR.cpy (h : CpR t s M0 M D) (hd : t + 41 ≤ s ∨ s + 41 ≤ t) {a b o n : Nat} (ho : o < 41) (ha : a = s + o) (hb : b = t + o) : CpR t s M0 (m_cpy M a 0 b 0 n) (fun x y => D x y ∨ (x = o ∧ y < n)) := by
  subst ha hb
  refine ⟨h.1, fun b hb => (cpy_ne (by omega)).trans (h.2.1 b hb), h.2.2.1, fun x y hx hxy => ?_⟩
  by_cases hxo : x = o
  · subst hxo
    rw [cpy_at]
    show (if y < n then _ else _) = _
    by_cases hy : y < n
    · rw [if_pos hy, h.src hd ho]
    · rw [if_neg hy]
      rcases hxy with hxy | hxy
      · exact h.2.2.2 x y hx hxy
      · exact absurd hxy.2 hy
  · rw [cpy_ne (by omega)]
    rcases hxy with hxy | hxy
    · exact h.2.2.2 x y hx hxy
    · exact absurd hxy.1 hxo
theorem CpR.law (h : CpR t s M0 M D) (v : Option Nat) : CpR t s M0 (m_setR M t 6 v) D := by
  refine ⟨h.1, h.2.1, fun b j hb => ?_, h.2.2.2⟩
  rw [rv_setR, if_neg hb]
  exact h.2.2.1 b j hb
end Cp
section Cq
variable {t s N : Nat} {M0 M : Mem} {D : Nat → Nat → Prop} {m : Nat → Int32}
/-- all that a town holds -/
def RlA (o j : Nat) : Prop := (o = 0 ∧ (j = 2 ∨ j = 5 ∨ (7 ≤ j ∧ j ≤ 13))) ∨ (o = 1 ∧ (j = 1 ∨ j = 2)) ∨ (o = 2 ∧ j ≤ 2) ∨ ((o = 3 ∨ o = 4 ∨ o = 5 ∨ o = 7 ∨ o = 8) ∧ j < 24) ∨ (o = 9 ∧ j ≤ 1) ∨ (o = 10 ∧ j < 480) ∨ (11 ≤ o ∧ (((o - 11) % 3 = 0 ∧ j ≤ 7) ∨ ((o - 11) % 3 ≠ 0 ∧ j < 10)))
theorem f_Lands_copyFrom_eq (S : Shape M0 t) (S2 : Shape M0 s) (hd : t + 41 ≤ s ∨ s + 41 ≤ t) (C : CpR t s M0 M D) : ∃ K, f_Lands_copyFrom (t + 1) (s + 1) M = some K ∧ CpR t s M0 K (fun o j => D o j ∨ (1 ≤ o ∧ o ≤ 5 ∧ RlA o j)) := by
  unfold f_Lands_copyFrom f_Manners_copyFrom
  have A0 := C.sh S
  have B0 := C.sh2 hd S2
  have v2 : ∀ {K : Mem} {D : Nat → Nat → Prop} (j : Nat), CpR t s M0 K D → gI K 4 (s + 2) j = some (m_iv M0 (s + 2) j) := fun j C => by rw [(C.sh2 hd S2).i2, C.src hd (by decide)]
  have v1 : ∀ {K : Mem} {D : Nat → Nat → Prop} (j : Nat), CpR t s M0 K D → gI K 0 (s + 1) j = some (m_iv M0 (s + 1) j) := fun j C => by rw [(C.sh2 hd S2).i1, C.src hd (by decide)]
  rw [A0.g_manners, ob, B0.g_manners, ob, A0.c2, ob, v2 0 C, ob, A0.p2, ob]
  have C1 := C.set (o := 2) (by decide) rfl (rfl : m_iv M0 (s + 2) 0 = m_iv M0 (s + 2) 0)
  rw [v2 1 C1, ob, (C1.sh S).p2, ob]
  have C2 := C1.set (o := 2) (by decide) rfl (rfl : m_iv M0 (s + 2) 1 = m_iv M0 (s + 2) 1)
  rw [v2 2 C2, ob, (C2.sh S).p2, ob, ob]
  have C3 := C2.set (o := 2) (by decide) rfl (rfl : m_iv M0 (s + 2) 2 = m_iv M0 (s + 2) 2)
  rw [v1 1 C3, ob, (C3.sh S).p1, ob]
  have C4 := C3.set (o := 1) (by decide) rfl (rfl : m_iv M0 (s + 1) 1 = m_iv M0 (s + 1) 1)
  rw [v1 2 C4, ob, (C4.sh S).p1, ob]
  have C5 := C4.set (o := 1) (by decide) rfl (rfl : m_iv M0 (s + 1) 2 = m_iv M0 (s + 1) 2)
  rw [(C5.sh2 hd S2).g_hland, ob, (C5.sh S).g_hland, ob, acp_eq (z := 24) (C5.sh2 hd S2).k3 (C5.sh S).k3 (by decide) rfl, ob]
  have C6 := C5.cpy hd (o := 3) (n := 24) (by decide) rfl rfl
  rw [(C6.sh2 hd S2).g_hgreet, ob, (C6.sh S).g_hgreet, ob, acp_eq (z := 24) (C6.sh2 hd S2).k4 (C6.sh S).k4 (by decide) rfl, ob]
  have C7 := C6.cpy hd (o := 4) (n := 24) (by decide) rfl rfl
  rw [(C7.sh2 hd S2).g_hweight, ob, (C7.sh S).g_hweight, ob, acp_eq (z := 24) (C7.sh2 hd S2).k5 (C7.sh S).k5 (by decide) rfl, ob]
  have C8 := C7.cpy hd (o := 5) (n := 24) (by decide) rfl rfl
  refine ⟨_, rfl, C8.sub fun o j h41 h => ?_⟩
  unfold RlA at h
  rcases h with h | h
  · simp only [h, true_or]
  · omega
theorem f_Person_copyFrom_eq (S : Shape M0 t) (S2 : Shape M0 s) (hd : t + 41 ≤ s ∨ s + 41 ≤ t) (C : CpR t s M0 M D) {i : Nat} (hi : i < 10) (hc : m_iv M0 (s + 11 + 3 * i) 4 = 0 ∨ m_iv M0 (s + 11 + 3 * i) 4 = 1) :
    ∃ K, f_Person_copyFrom (t + 11 + 3 * i) (s + 11 + 3 * i) M = some K ∧ CpR t s M0 K (fun o j => D o j ∨ ((o = 11 + 3 * i ∧ j ≤ 7) ∨ (o = 12 + 3 * i ∧ j < 10) ∨ (o = 13 + 3 * i ∧ j < 10))) := by
  unfold f_Person_copyFrom
  have ha : t + 11 + 3 * i = t + (11 + 3 * i) := by omega
  have v : ∀ {K : Mem} {D : Nat → Nat → Prop} (j : Nat), CpR t s M0 K D → gI K 5 (s + 11 + 3 * i) j = some (m_iv M0 (s + (11 + 3 * i)) j) := fun j C => by rw [(C.sh2 hd S2).iP hi, show s + 11 + 3 * i = s + (11 + 3 * i) by omega, C.src hd (by omega)]
  have hc2 : m_iv M0 (s + (11 + 3 * i)) 4 = 0 ∨ m_iv M0 (s + (11 + 3 * i)) 4 = 1 := by rw [show s + (11 + 3 * i) = s + 11 + 3 * i by omega]; exact hc
  rw [v 0 C, ob, (C.sh S).pP hi, ob]
  have C1 := C.set (j := 0) (show 11 + 3 * i < 41 by omega) ha rfl
  rw [v 1 C1, ob, (C1.sh S).pP hi, ob]
  have C2 := C1.set (j := 1) (show 11 + 3 * i < 41 by omega) ha rfl
  rw [v 2 C2, ob, (C2.sh S).pP hi, ob]
  have C3 := C2.set (j := 2) (show 11 + 3 * i < 41 by omega) ha rfl
  rw [v 3 C3, ob, (C3.sh S).pP hi, ob]
  have C4 := C3.set (j := 3) (show 11 + 3 * i < 41 by omega) ha rfl
  rw [v 4 C4, ob, (C4.sh S).zP hi 4 hc2, ob]
  have C5 := C4.set (j := 4) (show 11 + 3 * i < 41 by omega) ha rfl
  rw [v 5 C5, ob, (C5.sh S).pP hi, ob]
  have C6 := C5.set (j := 5) (show 11 + 3 * i < 41 by omega) ha rfl
  rw [v 6 C6, ob, (C6.sh S).pP hi, ob]
  have C7 := C6.set (j := 6) (show 11 + 3 * i < 41 by omega) ha rfl
  rw [v 7 C7, ob, (C7.sh S).pP hi, ob]
  have C8 := C7.set (j := 7) (show 11 + 3 * i < 41 by omega) ha rfl
  rw [(C8.sh2 hd S2).g_met hi, ob, (C8.sh S).g_met hi, ob, acp_eq (z := 10) ((C8.sh2 hd S2).kM hi) ((C8.sh S).kM hi) (by decide) rfl, ob]
  have C9 := C8.cpy hd (n := 10) (show 12 + 3 * i < 41 by omega) (show s + 12 + 3 * i = s + (12 + 3 * i) by omega) (show t + 12 + 3 * i = t + (12 + 3 * i) by omega)
  rw [(C9.sh2 hd S2).g_saw hi, ob, (C9.sh S).g_saw hi, ob, acp_eq (z := 10) ((C9.sh2 hd S2).kS hi) ((C9.sh S).kS hi) (by decide) rfl, ob]
  have C10 := C9.cpy hd (n := 10) (show 13 + 3 * i < 41 by omega) (show s + 13 + 3 * i = s + (13 + 3 * i) by omega) (show t + 13 + 3 * i = t + (13 + 3 * i) by omega)
  refine ⟨_, rfl, C10.sub fun o j h41 h => ?_⟩
  rcases h with h | h
  · simp only [h, true_or]
  · omega
theorem f_Town_copyFrom_eq (S : Shape M t) (S2 : Shape M s) (hd : t + 41 ≤ s ∨ s + 41 ≤ t) (hN : 500 < N) (hc : ∀ i, i < 10 → m_iv M (s + 11 + 3 * i) 4 = 0 ∨ m_iv M (s + 11 + 3 * i) 4 = 1) :
    ∃ K, f_Town_copyFrom N t s M = some K ∧ CpR t s M K RlA ∧ m_rv K t 6 = m_rv M s 6 := by
  unfold f_Town_copyFrom
  have C0 : CpR t s M M (fun _ _ => False) := ⟨⟨rfl, rfl, rfl⟩, fun _ _ => rfl, fun _ _ _ => rfl, fun _ _ _ h => h.elim⟩
  obtain ⟨M1, h1, C1⟩ := f_Lands_copyFrom_eq S S2 hd C0
  rw [S.g_lands, ob, S2.g_lands, ob, S.c1, ob, h1, ob]
  -- the people
  have key : ∀ (j k fuel : Nat) (K : Mem), k + j = 10 → j < fuel → CpR t s M K (fun o j => (1 ≤ o ∧ o ≤ 5 ∧ RlA o j) ∨ (11 ≤ o ∧ o < 11 + 3 * k ∧ RlA o j)) →
      ∃ L, f_Town_copyFrom_13 N t s fuel (iN k) K = some L ∧ CpR t s M L RlA ∧ m_rv L t 6 = m_rv M s 6 := by
    intro j
    induction j with
    | succ j ih =>
      intro k fuel K hk hf C
      obtain ⟨fu, rfl⟩ : ∃ fu, fuel = fu + 1 := ⟨fuel - 1, by omega⟩
      have hk10 : k < 10 := by omega
      obtain ⟨L, g1, C2⟩ := f_Person_copyFrom_eq S S2 hd C hk10 (hc k hk10)
      have e : ¬ (10 : Int32) ≤ iN k := iN_nle (n := 10) hk10 (by decide)
      rw [f_Town_copyFrom_13, if_neg e, (C.sh S).g_people, ob, (C.sh S).g_person hk10, ob, (C.sh2 hd S2).g_people, ob, (C.sh2 hd S2).g_person hk10, ob, (C.sh S).cP hk10, ob, g1, ob, iN_s]
      refine ih (k + 1) fu L (by omega) (by omega) (C2.sub fun o j h41 h => ?_)
      rcases h with h | h
      · exact Or.inl (Or.inl h)
      · by_cases h2 : o < 11 + 3 * k
        · exact Or.inl (Or.inr ⟨h.1, h2, h.2.2⟩)
        · right
          have h3 := h.2.2
          unfold RlA at h3
          omega
    | zero =>
      intro k fuel K hk hf C
      obtain ⟨fu, rfl⟩ : ∃ fu, fuel = fu + 1 := ⟨fuel - 1, by omega⟩
      obtain rfl : k = 10 := by omega
      have v0 : ∀ {K : Mem} {D : Nat → Nat → Prop} (j : Nat), CpR t s M K D → gI K 7 s j = some (m_iv M (s + 0) j) := fun j C => by rw [(C.sh2 hd S2).i0]; exact congrArg (fun f => some (f j)) (C.src hd (o := 0) (by decide))
      have v9 : ∀ {K : Mem} {D : Nat → Nat → Prop} (j : Nat), CpR t s M K D → gI K 3 (s + 9) j = some (m_iv M (s + 9) j) := fun j C => by rw [(C.sh2 hd S2).i9, C.src hd (by decide)]
      rw [f_Town_copyFrom_13, if_pos (show (10 : Int32) ≤ iN 10 from i_le_rfl 10)]
      rw [v0 2 C, ob, (C.sh S).p0, ob]
      have C1 := C.set (a := t) (o := 0) (j := 2) (by decide) rfl rfl
      rw [(C1.sh2 hd S2).g_who, ob, (C1.sh S).g_who, ob, acp_eq (z := 24) (C1.sh2 hd S2).k7 (C1.sh S).k7 (by decide) rfl, ob]
      have C2 := C1.cpy hd (o := 7) (n := 24) (by decide) rfl rfl
      rw [(C2.sh2 hd S2).g_whom, ob, (C2.sh S).g_whom, ob, acp_eq (z := 24) (C2.sh2 hd S2).k8 (C2.sh S).k8 (by decide) rfl, ob]
      have C3 := C2.cpy hd (o := 8) (n := 24) (by decide) rfl rfl
      rw [v0 5 C3, ob, (C3.sh S).p0, ob]
      have C4 := C3.set (a := t) (o := 0) (j := 5) (by decide) rfl rfl
      have hlaw : gN (m_setI (m_cpy (m_cpy (m_setI K t 2 (m_iv M (s + 0) 2)) (s + 7) 0 (t + 7) 0 24) (s + 8) 0 (t + 8) 0 24) t 5 (m_iv M (s + 0) 5)) 7 s 6 = some (m_rv M s 6) := by
        rw [(C4.sh2 hd S2).n0]
        exact congrArg some (C4.2.2.1 s 6 (by omega))
      rw [hlaw, ob, (C4.sh S).pn, ob]
      have C5 := C4.law (m_rv M s 6)
      rw [v0 7 C5, ob, (C5.sh S).p0, ob]
      have C6 := C5.set (a := t) (o := 0) (j := 7) (by decide) rfl rfl
      rw [v0 8 C6, ob, (C6.sh S).p0, ob]
      have C7 := C6.set (a := t) (o := 0) (j := 8) (by decide) rfl rfl
      rw [v0 9 C7, ob, (C7.sh S).p0, ob]
      have C8 := C7.set (a := t) (o := 0) (j := 9) (by decide) rfl rfl
      rw [v0 10 C8, ob, (C8.sh S).p0, ob]
      have C9 := C8.set (a := t) (o := 0) (j := 10) (by decide) rfl rfl
      rw [v0 11 C9, ob, (C9.sh S).p0, ob]
      have C10 := C9.set (a := t) (o := 0) (j := 11) (by decide) rfl rfl
      rw [v0 12 C10, ob, (C10.sh S).p0, ob]
      have C11 := C10.set (a := t) (o := 0) (j := 12) (by decide) rfl rfl
      rw [v0 13 C11, ob, (C11.sh S).p0, ob]
      have C12 := C11.set (a := t) (o := 0) (j := 13) (by decide) rfl rfl
      rw [(C12.sh S).g_log, ob, (C12.sh2 hd S2).g_log, ob, (C12.sh S).c9, ob]
      unfold f_Log_copyFrom
      rw [v9 0 C12, ob, (C12.sh S).p9, ob]
      have C13 := C12.set (o := 9) (j := 0) (by decide) rfl rfl
      rw [v9 1 C13, ob, (C13.sh S).p9, ob]
      have C14 := C13.set (o := 9) (j := 1) (by decide) rfl rfl
      rw [(C14.sh2 hd S2).g_cells, ob, (C14.sh S).g_cells, ob, acp_eq (z := 480) (C14.sh2 hd S2).k10 (C14.sh S).k10 (by decide) rfl, ob, ob]
      have C15 := C14.cpy hd (o := 10) (n := 480) (by decide) rfl rfl
      refine ⟨_, rfl, C15.sub fun o j h41 h => ?_, ?_⟩
      · clear C14 C13 C12 C11 C10 C9 C8 C7 C6 C5 C4 C3 C2 C1 C hlaw
        by_cases h1 : 1 ≤ o ∧ o ≤ 5
        · simp only [h, h1, true_and, and_self, true_or]
        · by_cases h2 : 11 ≤ o
          · have h3 : o < 11 + 3 * 10 := h41
            simp only [h, h2, h3, true_and, and_self, or_true, true_or]
          · unfold RlA at h
            rcases h with ⟨rfl, h⟩ | ⟨rfl, h⟩ | ⟨rfl, h⟩ | ⟨h0, h⟩ | ⟨rfl, h⟩ | ⟨rfl, h⟩ | ⟨h0, h⟩
            · have h5 : j = 2 ∨ j = 5 ∨ j = 7 ∨ j = 8 ∨ j = 9 ∨ j = 10 ∨ j = 11 ∨ j = 12 ∨ j = 13 := by
                clear h1 h2
                omega
              rcases h5 with rfl | rfl | rfl | rfl | rfl | rfl | rfl | rfl | rfl <;> simp
            · exact absurd ⟨Nat.le_refl 1, by decide⟩ h1
            · exact absurd ⟨by decide, by decide⟩ h1
            · rcases h0 with rfl | rfl | rfl | rfl | rfl
              · exact absurd ⟨by decide, by decide⟩ h1
              · exact absurd ⟨by decide, by decide⟩ h1
              · exact absurd ⟨by decide, by decide⟩ h1
              · simp [h]
              · simp [h]
            · have h5 : j = 0 ∨ j = 1 := by
                clear h1 h2
                omega
              rcases h5 with rfl | rfl <;> simp
            · simp [h]
            · exact absurd h0 h2
      · exact if_pos ⟨rfl, rfl⟩
  exact key 10 0 N M1 (by omega) (by omega) (C1.sub fun o j h41 h => by
    rcases h with h | h
    · exact Or.inr h
    · omega)
theorem TRel.copied {K : Mem} (h : TRel M s m) (I : Inv m) (C : CpR t s M K RlA) : TRel K t m := by
  have g : ∀ o j, o < 41 → RlA o j → m_iv K (t + o) j = m_iv M (s + o) j := C.2.2.2
  have b4 := I.b4
  have b6 := I.b6
  have g0 : ∀ j, (j = 2 ∨ j = 5 ∨ (7 ≤ j ∧ j ≤ 13)) → m_iv K t j = m_iv M s j := fun j hj => g 0 j (by decide) (Or.inl ⟨rfl, hj⟩)
  refine ⟨⟨?_, ?_, ⟨?_, ?_, ?_⟩, fun k hk => ⟨?_, ?_, ?_⟩⟩, ⟨?_, ?_, ?_, ?_, ?_, ?_, ?_, ?_, ?_⟩, fun q hq => ?_, fun k hk => ⟨?_, ?_⟩, ?_, ?_⟩
  · rw [g 1 1 (by decide) (by unfold RlA; omega)]; exact h.v3
  · rw [g 1 2 (by decide) (by unfold RlA; omega)]; exact h.v4
  · rw [g 2 0 (by decide) (by unfold RlA; omega)]; exact h.1.2.2.1.1
  · rw [g 2 1 (by decide) (by unfold RlA; omega)]; exact h.1.2.2.1.2.1
  · rw [g 2 2 (by decide) (by unfold RlA; omega)]; exact h.1.2.2.1.2.2
  · rw [g 3 k (by decide) (by unfold RlA; omega)]; exact (h.hab hk).1
  · rw [g 4 k (by decide) (by unfold RlA; omega)]; exact (h.hab hk).2.1
  · rw [g 5 k (by decide) (by unfold RlA; omega)]; exact (h.hab hk).2.2
  · rw [g0 2 (by omega)]; exact h.v5
  · rw [g0 5 (by omega)]; exact h.v6
  · rw [g0 7 (by omega)]; exact h.v0
  · rw [g0 8 (by omega)]; exact h.v16
  · rw [g0 9 (by omega)]; exact h.v7
  · rw [g0 10 (by omega)]; exact h.v8
  · rw [g0 11 (by omega)]; exact h.v9
  · rw [g0 12 (by omega)]; exact h.v10
  · rw [g0 13 (by omega)]; exact h.v11
  · have e0 : ∀ j, j ≤ 7 → m_iv K (t + 11 + 3 * q) j = m_iv M (s + 11 + 3 * q) j := fun j hj => by
      have := g (11 + 3 * q) j (by omega) (by unfold RlA; omega)
      rw [show t + (11 + 3 * q) = t + 11 + 3 * q by omega, show s + (11 + 3 * q) = s + 11 + 3 * q by omega] at this
      exact this
    have e1 : ∀ j, j < 10 → m_iv K (t + 12 + 3 * q) j = m_iv M (s + 12 + 3 * q) j := fun j hj => by
      have := g (12 + 3 * q) j (by omega) (by unfold RlA; omega)
      rw [show t + (12 + 3 * q) = t + 12 + 3 * q by omega, show s + (12 + 3 * q) = s + 12 + 3 * q by omega] at this
      exact this
    have e2 : ∀ j, j < 10 → m_iv K (t + 13 + 3 * q) j = m_iv M (s + 13 + 3 * q) j := fun j hj => by
      have := g (13 + 3 * q) j (by omega) (by unfold RlA; omega)
      rw [show t + (13 + 3 * q) = t + 13 + 3 * q by omega, show s + (13 + 3 * q) = s + 13 + 3 * q by omega] at this
      exact this
    obtain ⟨p1, p2⟩ := h.P hq
    unfold PRel
    rw [e0 0 (by decide), e0 1 (by decide), e0 2 (by decide), e0 3 (by decide), e0 4 (by decide), e0 5 (by decide), e0 6 (by decide), e0 7 (by decide)]
    refine ⟨fun h9 => ?_, fun h9 => ?_⟩
    · obtain ⟨a, b, c, d, e⟩ := p1 h9
      exact ⟨a, b, c, d, fun o ho => by rw [e1 o ho, e2 o ho]; exact e o ho⟩
    · obtain ⟨a, b, c, d, e⟩ := p2 h9
      exact ⟨a, b, c, d, fun o ho => by rw [e1 o ho, e2 o ho]; exact e o ho⟩
  · rw [g 7 k (by decide) (by unfold RlA; omega)]; exact (h.E k hk).1
  · rw [g 8 k (by decide) (by unfold RlA; omega)]; exact (h.E k hk).2
  · rw [g 9 0 (by decide) (by unfold RlA; omega)]; exact h.G.1
  · obtain ⟨w, hw, e1, e2⟩ := h.G.2
    refine ⟨w, hw, by rw [g 9 1 (by decide) (by unfold RlA; omega)]; exact e1, fun k c hk hc => ?_⟩
    rw [g 10 _ (by decide) (by unfold RlA; omega)]
    exact e2 k c hk hc
end Cq
