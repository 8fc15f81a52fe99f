/-! one sees what the other one did -/
def seM (m : Nat → Int32) (p o : Nat) (d : Int32) : Nat → Int32 := fun k =>
  if k = 172 + 10 * p + o then m k + 1
  else if k = 272 + 10 * p + o then d
  else if k = 92 + 8 * p + 1 then (if m (92 + 8 * p + 6) = d ∧ m (92 + 8 * p + 7) = d then d else m k)
  else if k = 92 + 8 * p + 5 then m k + 1
  else if k = 92 + 8 * p + 6 then d
  else if k = 92 + 8 * p + 7 then m (92 + 8 * p + 6)
  else m k
theorem seM_out {m : Nat → Int32} {p o k : Nat} {d : Int32} (hp : p < 10) (ho : o < 10) (h : k < 92 ∨ 372 ≤ k) : seM m p o d k = m k := by
  unfold seM
  rw [if_neg (by omega), if_neg (by omega), if_neg (by omega), if_neg (by omega), if_neg (by omega), if_neg (by omega)]
theorem seM_oth {m : Nat → Int32} {p o q j : Nat} {d : Int32} (hp : p < 10) (ho : o < 10) (hq : q < 10) (hj : j < 8) (h : q ≠ p) : pC (seM m p o d) q j = pC m q j := by
  unfold pC seM
  rw [if_neg (by omega), if_neg (by omega), if_neg (by omega), if_neg (by omega), if_neg (by omega), if_neg (by omega)]
theorem seM_mt {m : Nat → Int32} {p o q x : Nat} {d : Int32} (hp : p < 10) (ho : o < 10) (hq : q < 10) (hx : x < 10) : mt (seM m p o d) q x = if q = p ∧ x = o then mt m p o + 1 else mt m q x := by
  unfold mt seM
  by_cases h : q = p ∧ x = o
  · rw [if_pos (by omega), if_pos h, h.1, h.2]
  · rw [if_neg (by omega), if_neg (by omega), if_neg (by omega), if_neg (by omega), if_neg (by omega), if_neg (by omega), if_neg h]
theorem seM_sw {m : Nat → Int32} {p o q x : Nat} {d : Int32} (hp : p < 10) (ho : o < 10) (hq : q < 10) (hx : x < 10) : swC (seM m p o d) q x = if q = p ∧ x = o then d else swC m q x := by
  unfold swC seM
  by_cases h : q = p ∧ x = o
  · rw [if_neg (by omega), if_pos (by omega), if_pos h]
  · rw [if_neg (by omega), if_neg (by omega), if_neg (by omega), if_neg (by omega), if_neg (by omega), if_neg (by omega), if_neg h]
theorem seM_own {m : Nat → Int32} {p o : Nat} {d : Int32} (hp : p < 10) (ho : o < 10) : pC (seM m p o d) p 1 = if pC m p 6 = d ∧ pC m p 7 = d then d else pC m p 1 := by
  unfold pC seM
  rw [if_neg (by omega), if_neg (by omega), if_pos rfl]
theorem seM_had {m : Nat → Int32} {p o : Nat} {d : Int32} (hp : p < 10) (ho : o < 10) : pC (seM m p o d) p 5 = pC m p 5 + 1 := by
  unfold pC seM
  rw [if_neg (by omega), if_neg (by omega), if_neg (by omega), if_pos rfl]
theorem seM_lat {m : Nat → Int32} {p o : Nat} {d : Int32} (hp : p < 10) (ho : o < 10) : pC (seM m p o d) p 6 = d := by
  unfold pC seM
  rw [if_neg (by omega), if_neg (by omega), if_neg (by omega), if_neg (by omega), if_pos rfl]
theorem seM_bef {m : Nat → Int32} {p o : Nat} {d : Int32} (hp : p < 10) (ho : o < 10) : pC (seM m p o d) p 7 = pC m p 6 := by
  unfold pC seM
  rw [if_neg (by omega), if_neg (by omega), if_neg (by omega), if_neg (by omega), if_neg (by omega), if_pos rfl]
theorem seM_rest {m : Nat → Int32} {p o j : Nat} {d : Int32} (hp : p < 10) (ho : o < 10) (hj : j = 0 ∨ j = 2 ∨ j = 3 ∨ j = 4) : pC (seM m p o d) p j = pC m p j := by
  unfold pC seM
  rw [if_neg (by omega), if_neg (by omega), if_neg (by omega), if_neg (by omega), if_neg (by omega), if_neg (by omega)]
section Se
variable {r : Rho} {M : Mem} {t N p o : Nat} {m : Nat → Int32}
theorem up_se {m m2 : Nat → Int32} {d c : Int32} (hp : p < 10) (ho : o < 10) (h2 : m2 = up1 (up1 m (172 + 10 * p + o) (mt m p o + 1)) (272 + 10 * p + o) d) (hc : c = if m (92 + 8 * p + 6) = d ∧ m (92 + 8 * p + 7) = d then d else m (92 + 8 * p + 1)) :
    up1 (up1 (up1 (up1 m2 (92 + 8 * p + 1) c) (92 + 8 * p + 7) (m (92 + 8 * p + 6))) (92 + 8 * p + 6) d) (92 + 8 * p + 5) (m (92 + 8 * p + 5) + 1) = seM m p o d := by
  funext k
  subst h2
  unfold seM mt
  simp only [up1_at]
  by_cases h1 : k = 172 + 10 * p + o
  · subst h1
    rw [if_neg (by omega), if_neg (by omega), if_neg (by omega), if_neg (by omega), if_neg (by omega), if_pos rfl, if_pos rfl]
  by_cases h2 : k = 272 + 10 * p + o
  · subst h2
    rw [if_neg (by omega), if_neg (by omega), if_neg (by omega), if_neg (by omega), if_pos rfl, if_neg (by omega), if_pos rfl]
  by_cases h3 : k = 92 + 8 * p + 1
  · subst h3
    rw [if_neg (by omega), if_neg (by omega), if_neg (by omega), if_pos rfl, if_neg (by omega), if_neg (by omega), if_pos rfl, hc]
  by_cases h4 : k = 92 + 8 * p + 5
  · subst h4
    rw [if_pos rfl, if_neg (by omega), if_neg (by omega), if_neg (by omega), if_pos rfl]
  by_cases h5 : k = 92 + 8 * p + 6
  · subst h5
    rw [if_neg (by omega), if_pos rfl, if_neg (by omega), if_neg (by omega), if_neg (by omega), if_neg (by omega), if_pos rfl]
  by_cases h6 : k = 92 + 8 * p + 7
  · subst h6
    rw [if_neg (by omega), if_neg (by omega), if_pos rfl, if_neg (by omega), if_neg (by omega), if_neg (by omega), if_neg (by omega), if_neg (by omega), if_pos rfl]
  rw [if_neg h4, if_neg h5, if_neg h6, if_neg h3, if_neg h2, if_neg h1, if_neg h1, if_neg h2, if_neg h3, if_neg h4, if_neg h5, if_neg h6]
theorem up1_id (f : Nat → Int32) (j : Nat) {v : Int32} (h : v = f j) : up1 f j v = f := by
  funext k
  rw [up1_at]
  by_cases hk : k = j
  · rw [if_pos hk, h, hk]
  · rw [if_neg hk]
theorem f_R_sees_53_eq (hp : p < 10) (x : Int32) (d : Int32) {m2 : Nat → Int32} (h : r.2 1 = m2) : f_R_sees_53 (iN p) x d r = some (setM r (up1 (up1 (up1 m2 (92 + 8 * p + 7) (m2 (92 + 8 * p + 6))) (92 + 8 * p + 6) d) (92 + 8 * p + 5) (m2 (92 + 8 * p + 5) + 1))) := by
  unfold f_R_sees_53
  simp only [of6 hp, has7 hp, has6 hp, of5 hp, has5 hp, setM_m, setM_setM, ob, h]
  unfold pC
  rw [up1_ne (k := 92 + 8 * p + 5) (by omega), up1_ne (k := 92 + 8 * p + 5) (by omega)]
theorem f_R_sees_eq (hp : p < 10) (ho : o < 10) (d : Int32) : f_R_sees (iN p) (iN o) d r = some (setM r (seM (r.2 1) p o d)) := by
  unfold f_R_sees
  rw [ldM hp ho, ob, meets_k hp ho, ob, of6 hp, ob, setM_m]
  generalize h2 : up1 (up1 (r.2 1) (172 + 10 * p + o) (mt (r.2 1) p o + 1)) (272 + 10 * p + o) d = m2
  have e : ∀ j, j < 8 → m2 (92 + 8 * p + j) = r.2 1 (92 + 8 * p + j) := fun j hj => by rw [← h2, up1_ne (by omega), up1_ne (by omega)]
  have e5 := e 5 (by decide)
  have e6 := e 6 (by decide)
  have e7 := e 7 (by decide)
  have e1 := e 1 (by decide)
  have plain : ¬ (r.2 1 (92 + 8 * p + 6) = d ∧ r.2 1 (92 + 8 * p + 7) = d) → f_R_sees_53 (iN p) (iN o) d (setM r m2) = some (setM r (seM (r.2 1) p o d)) := by
    intro hn
    rw [f_R_sees_53_eq hp (iN o) d (setM_m r m2), setM_setM, e6, e5]
    have h3 := up_se (m := r.2 1) (m2 := m2) (c := r.2 1 (92 + 8 * p + 1)) hp ho h2.symm (if_neg hn).symm
    rw [up1_id m2 _ e1.symm] at h3
    rw [h3]
  show (if m2 (92 + 8 * p + 6) = d then _ else _) = _
  rw [e6]
  by_cases h6 : r.2 1 (92 + 8 * p + 6) = d
  · rw [if_pos h6, of7 hp, ob, setM_m]
    show (if m2 (92 + 8 * p + 7) = d then _ else _) = _
    rw [e7]
    by_cases h7 : r.2 1 (92 + 8 * p + 7) = d
    · rw [if_pos h7, has1 hp, ob, setM_m, setM_setM, f_R_sees_53_eq hp (iN o) d (setM_m r _), setM_setM, up1_ne (k := 92 + 8 * p + 6) (by omega), up1_ne (k := 92 + 8 * p + 5) (by omega), e6, e5]
      rw [up_se (m := r.2 1) (m2 := m2) (c := d) hp ho h2.symm (if_pos ⟨h6, h7⟩).symm]
    · rw [if_neg h7]
      exact plain fun q => h7 q.2
  · rw [if_neg h6]
    exact plain fun q => h6 q.1
/-- the class's part: which cells of a person change -/
theorem f_Person_learn_eq (S : Shape M t) (hp : p < 10) (ho : o < 10) (d : Int32) : ∃ M', f_Person_learn (t + 11 + 3 * p) (iN o) d M = some M' ∧ (m_sz M' = m_sz M ∧ m_kd M' = m_kd M ∧ m_rv M' = m_rv M ∧ m_lv M' = m_lv M) ∧ (∀ b, b ≠ t + 11 + 3 * p → b ≠ t + 12 + 3 * p → b ≠ t + 13 + 3 * p → m_iv M' b = m_iv M b) ∧
    m_iv M' (t + 12 + 3 * p) = up1 (m_iv M (t + 12 + 3 * p)) o (m_iv M (t + 12 + 3 * p) o + 1) ∧ m_iv M' (t + 13 + 3 * p) = up1 (m_iv M (t + 13 + 3 * p)) o d ∧
    m_iv M' (t + 11 + 3 * p) = up1 (up1 (up1 (m_iv M (t + 11 + 3 * p)) 1 (if m_iv M (t + 11 + 3 * p) 6 = d ∧ m_iv M (t + 11 + 3 * p) 7 = d then d else m_iv M (t + 11 + 3 * p) 1)) 7 (m_iv M (t + 11 + 3 * p) 6)) 6 d := by
  unfold f_Person_learn
  generalize hq : t + 11 + 3 * p = q
  have h12 : t + 12 + 3 * p = q + 1 := by omega
  have h13 : t + 13 + 3 * p = q + 2 := by omega
  rw [h12, h13]
  have gm : ∀ {K : Mem}, Shape K t → gR K 5 q 8 = some (q + 1) := fun S => by have := S.g_met hp; rw [hq, h12] at this; exact this
  have gs : ∀ {K : Mem}, Shape K t → gR K 5 q 9 = some (q + 2) := fun S => by have := S.g_saw hp; rw [hq, h13] at this; exact this
  have am : ∀ {K : Mem}, Shape K t → ald K (q + 1) (iN o) = some (m_iv K (q + 1) o) := fun S => by have := S.aM hp ho; rw [h12] at this; exact this
  have sm : ∀ {K : Mem} (v : Int32), Shape K t → ast K (q + 1) (iN o) v = some (m_setI K (q + 1) o v) := fun v S => by have := S.sM hp ho v; rw [h12] at this; exact this
  have ss : ∀ {K : Mem} (v : Int32), Shape K t → ast K (q + 2) (iN o) v = some (m_setI K (q + 2) o v) := fun v S => by have := S.sS hp ho v; rw [h13] at this; exact this
  have gi : ∀ {K : Mem} (j : Nat), Shape K t → gI K 5 q j = some (m_iv K q j) := fun j S => by have := S.iP hp j; rw [hq] at this; exact this
  have pi : ∀ {K : Mem} (j : Nat) (v : Int32), Shape K t → pI K 5 q j v = some (m_setI K q j v) := fun j v S => by have := S.pP hp j v; rw [hq] at this; exact this
  have S3 : Shape (m_setI M (q + 1) o (m_iv M (q + 1) o + 1)) t := S.setI
  have S5 : Shape (m_setI (m_setI M (q + 1) o (m_iv M (q + 1) o + 1)) (q + 2) o d) t := S3.setI
  rw [gm S, ob, am S, ob, sm _ S, ob, gs S3, ob, ss _ S3, ob, gi _ S5, ob, gi _ S5, ob]
  generalize hM5 : m_setI (m_setI M (q + 1) o (m_iv M (q + 1) o + 1)) (q + 2) o d = M5 at S5
  have r0 : m_iv M5 q = m_iv M q := by rw [← hM5, iv_ne (by omega), iv_ne (by omega)]
  have r1 : m_iv M5 (q + 1) = up1 (m_iv M (q + 1)) o (m_iv M (q + 1) o + 1) := by rw [← hM5, iv_ne (by omega), iv_same]
  have r2 : m_iv M5 (q + 2) = up1 (m_iv M (q + 2)) o d := by rw [← hM5, iv_same, iv_ne (by omega)]
  have rx : ∀ b, b ≠ q → b ≠ q + 1 → b ≠ q + 2 → m_iv M5 b = m_iv M b := fun b h0 h1 h2 => by rw [← hM5, iv_ne h2, iv_ne h1]
  have rk : m_sz M5 = m_sz M ∧ m_kd M5 = m_kd M ∧ m_rv M5 = m_rv M ∧ m_lv M5 = m_lv M := by rw [← hM5]; exact ⟨rfl, rfl, rfl, rfl⟩
  rw [r0]
  have last : ∀ {K : Mem} (c : Int32), Shape K t → m_iv K q = up1 (m_iv M q) 1 c → (∀ b, b ≠ q → m_iv K b = m_iv M5 b) → (m_sz K = m_sz M ∧ m_kd K = m_kd M ∧ m_rv K = m_rv M ∧ m_lv K = m_lv M) → (c = if m_iv M q 6 = d ∧ m_iv M q 7 = d then d else m_iv M q 1) →
      ∃ M', f_Person_learn_38 q (iN o) d K = some M' ∧ (m_sz M' = m_sz M ∧ m_kd M' = m_kd M ∧ m_rv M' = m_rv M ∧ m_lv M' = m_lv M) ∧ (∀ b, b ≠ q → b ≠ q + 1 → b ≠ q + 2 → m_iv M' b = m_iv M b) ∧ m_iv M' (q + 1) = up1 (m_iv M (q + 1)) o (m_iv M (q + 1) o + 1) ∧ m_iv M' (q + 2) = up1 (m_iv M (q + 2)) o d ∧ m_iv M' q = up1 (up1 (up1 (m_iv M q) 1 (if m_iv M q 6 = d ∧ m_iv M q 7 = d then d else m_iv M q 1)) 7 (m_iv M q 6)) 6 d := by
    intro K c SK k0 k1 k2 hc
    unfold f_Person_learn_38
    have S7 : Shape (m_setI K q 7 (m_iv K q 6)) t := SK.setI
    rw [gi _ SK, ob, pi _ _ SK, ob, pi _ _ S7, ob]
    refine ⟨_, rfl, k2, fun b h0 h1 h2 => ?_, ?_, ?_, ?_⟩
    · rw [iv_ne h0, iv_ne h0, k1 b h0, rx b h0 h1 h2]
    · rw [iv_ne (by omega), iv_ne (by omega), k1 _ (by omega), r1]
    · rw [iv_ne (by omega), iv_ne (by omega), k1 _ (by omega), r2]
    · rw [iv_same, iv_same, k0, hc, up1_ne (k := 6) (by decide)]
  by_cases h6 : m_iv M q 6 = d
  · rw [if_pos h6.symm]
    by_cases h7 : m_iv M q 7 = d
    · rw [if_pos h7.symm, pi _ _ S5, ob]
      exact last d S5.setI (by rw [iv_same, r0]) (fun b hb => iv_ne hb) rk (if_pos ⟨h6, h7⟩).symm
    · rw [if_neg fun q => h7 q.symm]
      exact last (m_iv M q 1) S5 (by rw [r0, up1_id _ _ rfl]) (fun b _ => rfl) rk (if_neg fun q => h7 q.2).symm
  · rw [if_neg fun q => h6 q.symm]
    exact last (m_iv M q 1) S5 (by rw [r0, up1_id _ _ rfl]) (fun b _ => rfl) rk (if_neg fun q => h6 q.1).symm
end Se
