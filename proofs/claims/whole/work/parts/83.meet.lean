/-! a meeting -/
def sd1 (s : Int32) : Int32 := 1103515245 * s + 12345
def drw (s : Int32) : Int32 := ((ushr s 16) &&& 32767) - ((ushr s 16) &&& 32767) / 100 * 100
/-- who is asked first -/
def fsM (m : Nat → Int32) (x y : Nat) : Nat := if pC m x 2 ≤ pC m y 2 then x else y
theorem fsM_or (m : Nat → Int32) (x y : Nat) : fsM m x y = x ∨ fsM m x y = y := by
  unfold fsM
  by_cases h : pC m x 2 ≤ pC m y 2
  · exact Or.inl (if_pos h)
  · exact Or.inr (if_neg h)
/-- who yields, and the seed behind it -/
def ylM (m : Nat → Int32) (x y : Nat) (c : Int32) : Int32 × Int32 :=
  if c ≤ 0 then (-1, m 16)
  else if pC m (fsM m x y) 3 ≤ drw (sd1 (m 16)) then (if pC m (x + y - fsM m x y) 3 ≤ drw (sd1 (sd1 (m 16))) then (-1, sd1 (sd1 (m 16))) else (iN (x + y - fsM m x y), sd1 (sd1 (m 16))))
  else (iN (fsM m x y), sd1 (m 16))
/-- a cold goes over -/
def clM (m : Nat → Int32) (x y : Nat) (dx dy : Int32) : Nat → Int32 :=
  if (pC m x 4 = 0 ∧ pC m y 4 = 0) ∨ dx >>> (3 &&& 31) = 0 ∨ dy >>> (3 &&& 31) = 0 then m else up1 (up1 m (92 + 8 * x + 4) 1) (92 + 8 * y + 4) 1
def mxI (a b : Int32) : Int32 := if a < b then b else a
/-- what comes of it, once it is known what both begin with: who yields, the seed, what both did, the cost, the model's row -/
def mY (m : Nat → Int32) (x y : Nat) (gx gy : Int32) : Int32 := (ylM m x y (costM m gx gy)).1
def mS (m : Nat → Int32) (x y : Nat) (gx gy : Int32) : Int32 := (ylM m x y (costM m gx gy)).2
def mDx (m : Nat → Int32) (x y : Nat) (gx gy : Int32) : Int32 := if mY m x y gx gy = iN x then gy else gx
def mDy (m : Nat → Int32) (x y : Nat) (gx gy : Int32) : Int32 := if mY m x y gx gy = iN y then gx else gy
def mD (m : Nat → Int32) (x y : Nat) (gx gy : Int32) : Int32 := if mY m x y gx gy = -1 then costM m gx gy else costM m gx gy / 2
def m3M (m : Nat → Int32) (x y : Nat) (gx gy : Int32) : Nat → Int32 := clM (seM (seM (up1 m 16 (mS m x y gx gy)) x y (mDy m x y gx gy)) y x (mDx m x y gx gy)) x y (mDx m x y gx gy) (mDy m x y gx gy)
def m4M (m m3 : Nat → Int32) (d yl dx dy : Int32) : Nat → Int32 := up1 (up1 (up1 (up1 m3 8 (m 8 + 1)) 9 (m 9 + d)) 10 (m 10 + (if yl = -1 then 0 else 1))) 11 (m 11 + mxI (cntI dx) (cntI dy))
def m5M (m : Nat → Int32) (x y : Nat) (gx gy : Int32) : Nat → Int32 := lgM (m4M m (m3M m x y gx gy) (mD m x y gx gy) (mY m x y gx gy) (mDx m x y gx gy) (mDy m x y gx gy)) (w8 (m 7) (iN x) (iN y) gx gy (mDx m x y gx gy) (mDy m x y gx gy) (mD m x y gx gy))
def meM (lw : (Nat → Int32) → Int32) (m : Nat → Int32) (x y : Nat) : Int32 × (Nat → Int32) :=
  (mD m x y (bgM lw m x y) (bgM lw m y x), m5M m x y (bgM lw m x y) (bgM lw m y x))
theorem setI_twice (M : Mem) (a j : Nat) (u v : Int32) : m_setI (m_setI M a j u) a j v = m_setI M a j v := by
  have h : up2 (up2 (m_iv M) a j u) a j v = up2 (m_iv M) a j v := by
    funext b k
    unfold up2
    by_cases hc : b = a ∧ k = j
    · rw [if_pos hc, if_pos hc]
    · rw [if_neg hc, if_neg hc, if_neg hc]
  show (m_sz M, m_kd M, up2 (up2 (m_iv M) a j u) a j v, m_rv M, m_lv M) = _
  rw [h]
  rfl
theorem setI_id {M : Mem} {a j : Nat} {v : Int32} (hv : m_iv M a j = v) : m_setI M a j v = M := by
  have h : up2 (m_iv M) a j v = m_iv M := by
    funext b k
    unfold up2
    by_cases hc : b = a ∧ k = j
    · rw [if_pos hc, hc.1, hc.2, hv]
    · rw [if_neg hc]
  show (m_sz M, m_kd M, up2 (m_iv M) a j v, m_rv M, m_lv M) = _
  rw [h]
  rfl
section Me
variable {M : Mem} {t N x y : Nat} {m : Nat → Int32}
theorem f_Town_drawBelow100_eq (S : Shape M t) : f_Town_drawBelow100 t M = some (drw (sd1 (m_iv M t 8)), m_setI M t 8 (sd1 (m_iv M t 8))) := by
  unfold f_Town_drawBelow100
  have S2 : Shape (m_setI M t 8 (1103515245 * m_iv M t 8 + 12345)) t := S.setI
  rw [S.i0, ob, S.p0, ob, S2.i0, ob, iv_same, up1_same]
  rfl
theorem bent_set (S : Shape M t) (I : Inv m) (R : TRel M t m) {f : Nat} (hf : f < cn m 5) (s : Int32) : gR (m_setI M t 8 s) 7 t 1 = some (t + 6) ∧ ard (m_setI M t 8 s) 2 (t + 6) (iN f) = some (t + 11 + 3 * f) ∧ gI (m_setI M t 8 s) 5 (t + 11 + 3 * f) 3 = some (pC m f 3) := by
  have h5 := I.b5
  have S2 : Shape (m_setI M t 8 s) t := S.setI
  refine ⟨S2.g_people, S2.g_person (by omega), ?_⟩
  rw [S2.iP (by omega), iv_ne (by omega), R.q3 I hf]
theorem f_Town_whoYields_eq (S : Shape M t) (I : Inv m) (R : TRel M t m) (hx : x < cn m 5) (hy : y < cn m 5) {c : Int32} (hc : ¬ c ≤ 0) : f_Town_whoYields t (iN x) (iN y) M = some ((ylM m x y c).1, m_setI M t 8 (ylM m x y c).2) := by
  have h5 := I.b5
  have fin : ∀ f, f < cn m 5 → f = fsM m x y → x + y - f < cn m 5 → f ≤ x + y → f_Town_whoYields_26 t (iN x) (iN y) (iN f) M = some ((ylM m x y c).1, m_setI M t 8 (ylM m x y c).2) := by
    intro f hf he hg hle
    unfold f_Town_whoYields_26 ylM
    obtain ⟨b1, b2, b3⟩ := bent_set S I R hf (sd1 (m 16))
    rw [S.c0, ob, f_Town_drawBelow100_eq S, ob, R.v16]
    dsimp only
    rw [b1, ob, b2, ob, b3, ob, if_neg hc, ← he]
    by_cases h1 : pC m f 3 ≤ drw (sd1 (m 16))
    · have S2 : Shape (m_setI M t 8 (sd1 (m 16))) t := S.setI
      have e : (iN x + iN y) - iN f = iN (x + y - f) := by rw [iN_add, iN_sub hle]
      obtain ⟨d1, d2, d3⟩ := bent_set S I R hg (sd1 (sd1 (m 16)))
      rw [if_pos h1, if_pos h1, S2.c0, ob, f_Town_drawBelow100_eq S2, ob, iv_same, up1_same, setI_twice, e]
      dsimp only
      rw [d1, ob, d2, ob, d3, ob]
      by_cases h2 : pC m (x + y - f) 3 ≤ drw (sd1 (sd1 (m 16)))
      · rw [if_pos h2, if_pos h2]
      · rw [if_neg h2, if_neg h2]
    · rw [if_neg h1, if_neg h1]
  unfold f_Town_whoYields
  rw [S.g_people, ob, S.g_person (show y < 10 by omega), ob, S.iP (show y < 10 by omega), ob, ob, S.g_person (show x < 10 by omega), ob, S.iP (show x < 10 by omega), ob, R.q2 I hx, R.q2 I hy]
  by_cases h : pC m x 2 ≤ pC m y 2
  · rw [if_pos h]
    exact fin x hx (if_pos h).symm (by omega) (by omega)
  · rw [if_neg h]
    exact fin y hy (if_neg h).symm (by omega) (by omega)
theorem put_rows (S : Shape M t) {w c : Nat} (hw : w < 60) (hc : c < 8) (h : m_iv M (t + 9) 1 = iN w) (v : Int32) : ∃ N, f_Log_put (t + 9) (iN c) v M = some N ∧ Shape N t ∧ (m_sz N = m_sz M ∧ m_kd N = m_kd M ∧ m_rv N = m_rv M ∧ m_lv N = m_lv M) ∧ m_iv N (t + 10) = up1 (m_iv M (t + 10)) (w * 8 + c) v ∧ ∀ b, b ≠ t + 10 → m_iv N b = m_iv M b :=
  ⟨_, f_Log_put_eq S hw hc h v, S.setI, ⟨rfl, rfl, rfl, rfl⟩, iv_same _ _ _ _, fun b hb => iv_ne hb⟩
theorem kk_trans {A B C : Mem} (h : m_sz B = m_sz A ∧ m_kd B = m_kd A ∧ m_rv B = m_rv A ∧ m_lv B = m_lv A) (k : m_sz C = m_sz B ∧ m_kd C = m_kd B ∧ m_rv C = m_rv B ∧ m_lv C = m_lv B) : m_sz C = m_sz A ∧ m_kd C = m_kd A ∧ m_rv C = m_rv A ∧ m_lv C = m_lv A :=
  ⟨k.1.trans h.1, k.2.1.trans h.2.1, k.2.2.1.trans h.2.2.1, k.2.2.2.trans h.2.2.2⟩
theorem f_Town_writeDown_eq (S : Shape M t) {w : Nat} (hw : w < 60) (h : m_iv M (t + 9) 1 = iN w) (a b c : Int32) : ∃ N, f_Town_writeDown t a b c M = some N ∧ Shape N t ∧ (m_sz N = m_sz M ∧ m_kd N = m_kd M ∧ m_rv N = m_rv M ∧ m_lv N = m_lv M) ∧
    m_iv N t = up1 (up1 (m_iv M t) 10 (m_iv M t 10 + 1)) 11 (m_iv M t 11 + c) ∧ m_iv N (t + 9) = up1 (up1 (m_iv M (t + 9)) 1 (iN ((w + 1) % 60))) 0 (if 60 < m_iv M (t + 9) 0 + 1 then 60 else m_iv M (t + 9) 0 + 1) ∧
    m_iv N (t + 10) = up1 (up1 (up1 (up1 (m_iv M (t + 10)) ((w + 1) % 60 * 8 + 0) (m_iv M t 9)) ((w + 1) % 60 * 8 + 1) a) ((w + 1) % 60 * 8 + 2) b) ((w + 1) % 60 * 8 + 7) c ∧ ∀ d, d ≠ t → d ≠ t + 9 → d ≠ t + 10 → m_iv N d = m_iv M d := by
  unfold f_Town_writeDown
  have S1 : Shape (m_setI M t 10 (m_iv M t 10 + 1)) t := S.setI
  rw [S.i0, ob, S.p0, ob, S1.i0, ob, S1.p0, ob, iv_same, up1_ne (by decide)]
  generalize hM2 : m_setI (m_setI M t 10 (m_iv M t 10 + 1)) t 11 (m_iv M t 11 + c) = M2
  have S2 : Shape M2 t := hM2 ▸ S1.setI
  have k2 : m_sz M2 = m_sz M ∧ m_kd M2 = m_kd M ∧ m_rv M2 = m_rv M ∧ m_lv M2 = m_lv M := by rw [← hM2]; exact ⟨rfl, rfl, rfl, rfl⟩
  have t2 : m_iv M2 t = up1 (up1 (m_iv M t) 10 (m_iv M t 10 + 1)) 11 (m_iv M t 11 + c) := by rw [← hM2, iv_same, iv_same]
  have o2 : ∀ d, d ≠ t → m_iv M2 d = m_iv M d := fun d hd => by rw [← hM2, iv_ne hd, iv_ne hd]
  have e9 : m_iv M2 (t + 9) 1 = iN w := by rw [o2 _ (by omega)]; exact h
  rw [S2.g_log, ob, S2.c9, ob, f_Log_openRow_eq S2 hw e9, ob]
  generalize hM3 : m_setI (m_setI M2 (t + 9) 1 (iN ((w + 1) % 60))) (t + 9) 0 (if 60 < m_iv M2 (t + 9) 0 + 1 then 60 else m_iv M2 (t + 9) 0 + 1) = M3
  have S3 : Shape M3 t := hM3 ▸ (S2.setI : Shape (m_setI M2 (t + 9) 1 (iN ((w + 1) % 60))) t).setI
  have k3 : m_sz M3 = m_sz M2 ∧ m_kd M3 = m_kd M2 ∧ m_rv M3 = m_rv M2 ∧ m_lv M3 = m_lv M2 := by rw [← hM3]; exact ⟨rfl, rfl, rfl, rfl⟩
  have n3 : m_iv M3 (t + 9) = up1 (up1 (m_iv M (t + 9)) 1 (iN ((w + 1) % 60))) 0 (if 60 < m_iv M (t + 9) 0 + 1 then 60 else m_iv M (t + 9) 0 + 1) := by rw [← hM3, iv_same, iv_same, o2 _ (by omega)]
  have o3 : ∀ d, d ≠ t + 9 → m_iv M3 d = m_iv M2 d := fun d hd => by rw [← hM3, iv_ne hd, iv_ne hd]
  have w3 : m_iv M3 (t + 9) 1 = iN ((w + 1) % 60) := by rw [n3, up1_ne (by decide), up1_same]
  have hw2 : (w + 1) % 60 < 60 := Nat.mod_lt _ (by decide)
  generalize (w + 1) % 60 = v at *
  have r3 : m_iv M3 t 9 = m_iv M t 9 := by rw [o3 _ (by omega), t2, up1_ne (by decide), up1_ne (by decide)]
  obtain ⟨M4, h4, S4, k4, r4, o4⟩ := put_rows S3 hw2 (c := 0) (by decide) w3 (m_iv M3 t 9)
  obtain ⟨M5, h5, S5, k5, r5, o5⟩ := put_rows S4 hw2 (c := 1) (by decide) (by rw [o4 _ (by omega)]; exact w3) a
  obtain ⟨M6, h6, S6, k6, r6, o6⟩ := put_rows S5 hw2 (c := 2) (by decide) (by rw [o5 _ (by omega), o4 _ (by omega)]; exact w3) b
  obtain ⟨M7, h7, S7, k7, r7, o7⟩ := put_rows S6 hw2 (c := 7) (by decide) (by rw [o6 _ (by omega), o5 _ (by omega), o4 _ (by omega)]; exact w3) c
  rw [S3.g_log, ob, S3.i0, ob, S3.c9, ob, show f_Log_put (t + 9) 0 (m_iv M3 t 9) M3 = some M4 from h4, ob, S4.g_log, ob, S4.c9, ob, show f_Log_put (t + 9) 1 a M4 = some M5 from h5, ob, S5.g_log, ob, S5.c9, ob, show f_Log_put (t + 9) 2 b M5 = some M6 from h6, ob, S6.g_log, ob, S6.c9, ob, show f_Log_put (t + 9) 7 c M6 = some M7 from h7, ob]
  refine ⟨M7, rfl, S7, kk_trans (kk_trans (kk_trans (kk_trans (kk_trans k2 k3) k4) k5) k6) k7, ?_, ?_, ?_, fun d h0 h1 h2 => ?_⟩
  · rw [o7 _ (by omega), o6 _ (by omega), o5 _ (by omega), o4 _ (by omega), o3 _ (by omega), t2]
  · rw [o7 _ (by omega), o6 _ (by omega), o5 _ (by omega), o4 _ (by omega), n3]
  · rw [r7, r6, r5, r4, r3, o3 _ (by omega), o2 _ (by omega)]
  · rw [o7 _ h2, o6 _ h2, o5 _ h2, o4 _ h2, o3 _ h1, o2 _ h0]
end Me
