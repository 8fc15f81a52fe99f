section Lo
variable {N x o t B n p k w a en b rd xx s s' : Nat} {ps ys : Nat → Nat} {M K L : Mem} {r q : Rho} {tx : Nat → Int32} {f v : Int32} {m m2 : Nat → Int32} {lw : (Nat → Int32) → Int32}
theorem kd_n (M : Mem) (k : Nat × Nat) (b : Nat) : m_kd (m_new M k) b = if b = m_sz M then k else m_kd M b := rfl
theorem iv_n (M : Mem) (k : Nat × Nat) (b : Nat) : m_iv (m_new M k) b = if b = m_sz M then fun _ => 0 else m_iv M b := rfl
theorem rv_n (M : Mem) (k : Nat × Nat) (b : Nat) : m_rv (m_new M k) b = if b = m_sz M then fun _ => none else m_rv M b := rfl
theorem sz_n (M : Mem) (k : Nat × Nat) : m_sz (m_new M k) = m_sz M + 1 := rfl
theorem nwI_e {n B : Nat} (h : n ≤ B) (hn : n < 2147483648) : nwI M B (iN n) = some (m_sz M, m_new M (1, n)) := by
  unfold nwI
  rw [if_pos ⟨iN_nn hn, by rw [iN_cl hn]; exact h⟩, iN_cl hn]
theorem rv_R (M : Mem) (a j : Nat) (v : Option Nat) (b : Nat) (hb : b ≠ a) : m_rv (m_setR M a j v) b = m_rv M b := by
  funext i
  rw [rv_setR, if_neg (fun q => hb q.1)]
/-- a law and its reader made anew, behind all that was -/
theorem law_new (hx : (m_kd M xx).1 = 1 ∧ (m_kd M xx).2 = 400) (hxs : xx < m_sz M) (hen : en ≤ 400) : ∃ K1 K, f_Law_init (m_sz M) (iN en) (m_new M (11, 0)) = some K1 ∧ m_sz K1 = m_sz M + 6 ∧ (∀ b, b < m_sz M → m_rv (m_new K1 (12, 0)) b = m_rv M b ∧ m_kd (m_new K1 (12, 0)) b = m_kd M b) ∧ f_LR_init (m_sz K1) xx (iN en) (m_sz M) (m_new K1 (12, 0)) = some K ∧ m_sz K = m_sz M + 7 ∧ (∀ b, b < m_sz M → m_kd K b = m_kd M b ∧ m_rv K b = m_rv M b ∧ m_iv K b = m_iv M b) ∧ (∀ b, m_sz M + 7 ≤ b → m_kd K b = m_kd M b) ∧ RS_2 K (m_sz M + 6) xx ∧ m_rv K (m_sz M + 6) 6 = some (m_sz M) ∧ LawShape K (m_sz M) en ∧ (m_iv K (m_sz M + 6) 0 = -1 ∧ m_iv K (m_sz M + 6) 2 = iN en ∧ m_iv K (m_sz M + 6) 4 = 0 ∧ m_iv K (m_sz M + 6) 5 = 0) ∧ m_iv K (m_sz M) 0 = 0 ∧ m_iv K (m_sz M) 5 = 0 := by
  generalize ha : m_sz M = a at *
  have mx : f_Math_max (iN en) 0 = some (iN en) := by
    rw [max_eq, if_neg (iN_nn (by omega))]
  have mn : f_Math_min (iN en) (iN 400) = some (iN en) := by
    rw [min_eq, if_neg (iN_nlt (by omega) (by omega))]
  -- the law
  generalize hN1 : m_new M (11, 0) = N1
  have s1 : m_sz N1 = a + 1 := by rw [← hN1, sz_n, ha]
  have k1 : ∀ b, m_kd N1 b = if b = a then (11, 0) else m_kd M b := fun b => by rw [← hN1, kd_n, ha]
  have i1 : ∀ b, m_iv N1 b = if b = a then fun _ => 0 else m_iv M b := fun b => by rw [← hN1, iv_n, ha]
  have r1 : ∀ b, m_rv N1 b = if b = a then fun _ => none else m_rv M b := fun b => by rw [← hN1, rv_n, ha]
  -- one row more, put into a field of the law
  have row : ∀ (K : Mem) (c j n : Nat), m_sz K = a + c → 1 ≤ c → (m_kd K a).1 = 11 → n ≤ 400 → ∀ B, n ≤ B → ∃ L, (nwI K B (iN n)).bind (fun z => pR z.2 1 a j z.1) = some L ∧ nwI K B (iN n) = some (a + c, m_new K (1, n)) ∧ L = m_setR (m_new K (1, n)) a j (some (a + c)) ∧ m_sz L = a + (c + 1) ∧ (∀ b, m_kd L b = if b = a + c then (1, n) else m_kd K b) ∧ (∀ b, m_iv L b = if b = a + c then fun _ => 0 else m_iv K b) ∧ (∀ b, b ≠ a → m_rv L b = if b = a + c then fun _ => none else m_rv K b) ∧ (∀ i, m_rv L a i = if i = j then some (a + c) else m_rv K a i) := by
    intro K c j n hs hc hk hn B hB
    have e1 : nwI K B (iN n) = some (a + c, m_new K (1, n)) := by rw [nwI_e hB (by omega), hs]
    have hk2 : (m_kd (m_new K (1, n)) a).1 = 10 + 1 := by rw [kd_n, hs, if_neg (by omega)]; exact hk
    refine ⟨_, ?_, e1, rfl, ?_, fun b => ?_, fun b => ?_, fun b hb => ?_, fun i => ?_⟩
    · rw [e1, ob]
      exact pR_k (ci := 1) hk2
    · show m_sz K + 1 = _
      rw [hs]; rfl
    · show (if b = m_sz K then (1, n) else m_kd K b) = _
      rw [hs]
    · show (if b = m_sz K then fun _ => 0 else m_iv K b) = _
      rw [hs]
    · rw [rv_R _ _ _ _ _ hb, rv_n, hs]
    · rw [rv_setR]
      by_cases hi : i = j
      · rw [if_pos ⟨rfl, hi⟩, if_pos hi]
      · rw [if_neg (fun q => hi q.2), if_neg hi, rv_n, hs, if_neg (by omega)]
  have ka1 : (m_kd N1 a).1 = 11 := by rw [k1, if_pos rfl]
  obtain ⟨N2, -, e2, d2, s2, k2, i2, r2, f2⟩ := row N1 1 1 12 s1 (by decide) ka1 (by decide) 12 (by decide)
  have ka2 : (m_kd N2 a).1 = 11 := by rw [k2, if_neg (by omega)]; exact ka1
  obtain ⟨N3, -, e3, d3, s3, k3, i3, r3, f3⟩ := row N2 2 2 12 s2 (by decide) ka2 (by decide) 12 (by decide)
  have ka3 : (m_kd N3 a).1 = 11 := by rw [k3, if_neg (by omega)]; exact ka2
  obtain ⟨N4, -, e4, d4, s4, k4, i4, r4, f4⟩ := row N3 3 6 32 s3 (by decide) ka3 (by decide) 32 (by decide)
  have ka4 : (m_kd N4 a).1 = 11 := by rw [k4, if_neg (by omega)]; exact ka3
  obtain ⟨N5, -, e5, d5, s5, k5, i5, r5, f5⟩ := row N4 4 3 en s4 (by decide) ka4 hen 400 hen
  have ka5 : (m_kd N5 a).1 = 11 := by rw [k5, if_neg (by omega)]; exact ka4
  obtain ⟨N6, -, e6, d6, s6, k6, i6, r6, f6⟩ := row N5 5 4 en s5 (by decide) ka5 hen 400 hen
  have ka6 : (m_kd N6 a).1 = 11 := by rw [k6, if_neg (by omega)]; exact ka5
  have put : ∀ (K L : Mem) (c j n : Nat), m_sz K = a + c → 1 ≤ c → (m_kd K a).1 = 11 → L = m_setR (m_new K (1, n)) a j (some (a + c)) → pR (m_new K (1, n)) 1 a j (a + c) = some L := by
    intro K L c j n hs hc hk hL
    rw [hL]
    refine pR_k (ci := 1) ?_
    rw [kd_n, hs, if_neg (by omega)]; exact hk
  have init : f_Law_init a (iN en) N1 = some N6 := by
    unfold f_Law_init
    have e2' : nwI N1 12 12 = some (a + 1, m_new N1 (1, 12)) := e2
    have e3' : nwI N2 12 12 = some (a + 2, m_new N2 (1, 12)) := e3
    have e4' : nwI N3 32 32 = some (a + 3, m_new N3 (1, 32)) := e4
    rw [e2', ob, put N1 N2 1 1 12 s1 (by decide) ka1 d2, ob, e3', ob, put N2 N3 2 2 12 s2 (by decide) ka2 d3, ob, e4', ob, put N3 N4 3 6 32 s3 (by decide) ka3 d4, ob, mx, ob, e5, ob, put N4 N5 4 3 en s4 (by decide) ka4 d5, ob, ob, e6, ob, put N5 N6 5 4 en s5 (by decide) ka5 d6, ob]
  -- the reader
  generalize hN7 : m_new N6 (12, 0) = N7
  have s7 : m_sz N7 = a + 7 := by rw [← hN7, sz_n, s6]
  have k7 : ∀ b, m_kd N7 b = if b = a + 6 then (12, 0) else m_kd N6 b := fun b => by rw [← hN7, kd_n, s6]
  have i7 : ∀ b, m_iv N7 b = if b = a + 6 then fun _ => 0 else m_iv N6 b := fun b => by rw [← hN7, iv_n, s6]
  have r7 : ∀ b, m_rv N7 b = if b = a + 6 then fun _ => none else m_rv N6 b := fun b => by rw [← hN7, rv_n, s6]
  have oldk : ∀ b, (b < a ∨ a + 7 ≤ b) → m_kd N7 b = m_kd M b := fun b hb => by
    rw [k7, if_neg (by omega), k6, if_neg (by omega), k5, if_neg (by omega), k4, if_neg (by omega), k3, if_neg (by omega), k2, if_neg (by omega), k1, if_neg (by omega)]
  have oldi : ∀ b, b < a → m_iv N7 b = m_iv M b := fun b hb => by
    rw [i7, if_neg (by omega), i6, if_neg (by omega), i5, if_neg (by omega), i4, if_neg (by omega), i3, if_neg (by omega), i2, if_neg (by omega), i1, if_neg (by omega)]
  have oldr : ∀ b, b < a → m_rv N7 b = m_rv M b := fun b hb => by
    rw [r7, if_neg (by omega), r6 b (by omega), if_neg (by omega), r5 b (by omega), if_neg (by omega), r4 b (by omega), if_neg (by omega), r3 b (by omega), if_neg (by omega), r2 b (by omega), if_neg (by omega), r1, if_neg (by omega)]
  have kr7 : (m_kd N7 (a + 6)).1 = 12 := by rw [k7, if_pos rfl]
  refine ⟨N6, m_setR (m_setI (m_setR (m_setI N7 (a + 6) 0 (-1)) (a + 6) 1 (some xx)) (a + 6) 2 (iN en)) (a + 6) 6 (some a), init, s6, fun b hb => ?_, ?_, s7, fun b hb => ⟨oldk b (Or.inl hb), ?_, ?_⟩, fun b hb => oldk b (Or.inr hb), ⟨kr7, ?_, ?_, by omega⟩, ?_, ?_, ⟨?_, ?_, ?_, ?_⟩, ?_, ?_⟩
  · rw [hN7]
    exact ⟨oldr b hb, oldk b (Or.inl hb)⟩
  · have s6' : m_sz N6 = a + 6 := s6
    rw [hN7, s6']
    unfold f_LR_init f_TxR_init_2
    have kx : m_kd (m_setR (m_setI N7 (a + 6) 0 (-1)) (a + 6) 1 (some xx)) xx = (1, 400) := by
      show m_kd N7 xx = _
      rw [oldk xx (Or.inl hxs)]
      exact Prod.ext hx.1 hx.2
    have al : aln (m_setR (m_setI N7 (a + 6) 0 (-1)) (a + 6) 1 (some xx)) xx = some (iN 400) := by
      unfold aln
      rw [kx]
      rfl
    have q1 : pI N7 2 (a + 6) 0 (-1) = some (m_setI N7 (a + 6) 0 (-1)) := pI_k (ci := 2) kr7
    have q2 : pR (m_setI N7 (a + 6) 0 (-1)) 2 (a + 6) 1 xx = some (m_setR (m_setI N7 (a + 6) 0 (-1)) (a + 6) 1 (some xx)) := pR_k (ci := 2) kr7
    have q3 : pI (m_setR (m_setI N7 (a + 6) 0 (-1)) (a + 6) 1 (some xx)) 2 (a + 6) 2 (iN en) = some (m_setI (m_setR (m_setI N7 (a + 6) 0 (-1)) (a + 6) 1 (some xx)) (a + 6) 2 (iN en)) := pI_k (ci := 2) kr7
    have q4 : pR (m_setI (m_setR (m_setI N7 (a + 6) 0 (-1)) (a + 6) 1 (some xx)) (a + 6) 2 (iN en)) 2 (a + 6) 6 a = some (m_setR (m_setI (m_setR (m_setI N7 (a + 6) 0 (-1)) (a + 6) 1 (some xx)) (a + 6) 2 (iN en)) (a + 6) 6 (some a)) := pR_k (ci := 2) kr7
    rw [q1, ob, q2, ob, al, ob, mn, ob, q3, ob, ob, q4, ob]
  · rw [rv_R _ _ _ _ _ (by omega), rv_setI, rv_R _ _ _ _ _ (by omega), rv_setI]
    exact oldr b hb
  · rw [iv_setR, iv_ne (by omega), iv_setR, iv_ne (by omega)]
    exact oldi b hb
  · rw [rv_setR, if_neg (by omega), rv_setI, rv_setR, if_pos ⟨rfl, rfl⟩]
  · show m_kd N7 xx = _
    rw [oldk xx (Or.inl hxs)]
    exact Prod.ext hx.1 hx.2
  · rw [rv_setR, if_pos ⟨rfl, rfl⟩]
  · have rl : ∀ i, m_rv (m_setR (m_setI (m_setR (m_setI N7 (a + 6) 0 (-1)) (a + 6) 1 (some xx)) (a + 6) 2 (iN en)) (a + 6) 6 (some a)) a i = m_rv N6 a i := fun i => by
      rw [rv_R _ _ _ _ _ (by omega), rv_setI, rv_R _ _ _ _ _ (by omega), rv_setI, r7, if_neg (by omega)]
    have kl : ∀ b, b < a + 6 → m_kd (m_setR (m_setI (m_setR (m_setI N7 (a + 6) 0 (-1)) (a + 6) 1 (some xx)) (a + 6) 2 (iN en)) (a + 6) 6 (some a)) b = m_kd N6 b := fun b hb => by
      show m_kd N7 b = _
      rw [k7, if_neg (by omega)]
    refine ⟨⟨?_, ?_, ?_, ?_, ?_, ?_⟩, ⟨?_, ?_, ?_, ?_, ?_⟩, hen⟩
    · rw [kl a (by omega), k6, if_neg (by omega), k5, if_neg (by omega), k4, if_neg (by omega), k3, if_neg (by omega), k2, if_neg (by omega), k1, if_pos rfl]
    · rw [rl, f6, if_neg (by decide), f5, if_neg (by decide), f4, if_neg (by decide), f3, if_neg (by decide), f2, if_pos rfl]
    · rw [rl, f6, if_neg (by decide), f5, if_neg (by decide), f4, if_neg (by decide), f3, if_pos rfl]
    · rw [rl, f6, if_neg (by decide), f5, if_neg (by decide), f4, if_pos rfl]
    · rw [rl, f6, if_neg (by decide), f5, if_pos rfl]
    · rw [rl, f6, if_pos rfl]
    · rw [kl _ (by omega), k6, if_neg (by omega), k5, if_neg (by omega), k4, if_neg (by omega), k3, if_neg (by omega), k2, if_pos rfl]
    · rw [kl _ (by omega), k6, if_neg (by omega), k5, if_neg (by omega), k4, if_neg (by omega), k3, if_pos rfl]
    · rw [kl _ (by omega), k6, if_neg (by omega), k5, if_neg (by omega), k4, if_pos rfl]
    · rw [kl _ (by omega), k6, if_neg (by omega), k5, if_pos rfl]
    · rw [kl _ (by omega), k6, if_pos rfl]
  · rw [iv_setR, iv_same, up1_ne (by decide), iv_setR, iv_same, up1_same]
  · rw [iv_setR, iv_same, up1_same]
  · rw [iv_setR, iv_same, up1_ne (by decide), iv_setR, iv_same, up1_ne (by decide), i7, if_pos rfl]
  · rw [iv_setR, iv_same, up1_ne (by decide), iv_setR, iv_same, up1_ne (by decide), i7, if_pos rfl]
  · rw [iv_setR, iv_ne (by omega), iv_setR, iv_ne (by omega), i7, if_neg (by omega), i6, if_neg (by omega), i5, if_neg (by omega), i4, if_neg (by omega), i3, if_neg (by omega), i2, if_neg (by omega), i1, if_pos rfl]
  · rw [iv_setR, iv_ne (by omega), iv_setR, iv_ne (by omega), i7, if_neg (by omega), i6, if_neg (by omega), i5, if_neg (by omega), i4, if_neg (by omega), i3, if_neg (by omega), i2, if_neg (by omega), i1, if_pos rfl]
end Lo
