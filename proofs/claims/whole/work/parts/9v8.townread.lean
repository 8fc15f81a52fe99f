section Vs
variable {N en i j k p t w b rd xx tk lo n o : Nat} {tx : Nat → Int32} {K L M : Mem} {f v u g hc hm a c d : Int32} {r q : Rho} {m m2 z : Nat → Int32}
/-- a town's text, read by both -/
theorem town_read (hen : en ≤ 400) (hN : 500 < N) (A : RS_8 K rd xx) (h6 : m_rv K rd 6 = some t) (S : Shape K t) (hd : t + 41 ≤ rd ∨ rd < t) (hxx : xx < t ∨ t + 41 ≤ xx) (hx : m_iv K xx = tx) (g0 : m_iv K rd 0 = -1) (g2 : m_iv K rd 2 = iN en) (g4 : m_iv K rd 4 = 0) (g5 : m_iv K rd 5 = 0) (I : Inv m) (R : TRel K t m) :
    ∃ L i' tk' f' m', f_TxR_readLines_8 N rd 14 K = some (b01 (decide (f' = -1)), L) ∧ TLS L rd xx t en tx i' tk' f' ∧ FRt rd t K L ∧ (f' = -1 → Inv m' ∧ TRel L t m') ∧ ∀ r, TXm r tx en → r.1 11 = 0 → r.1 12 = -1 → r.2 1 = m → ∃ v q, f_R_read N 0 r = some (v, q) ∧ Ly r q ∧ q.1 12 = f' ∧ (f' = -1 → q.2 1 = m') := by
  obtain ⟨L0, c1, c2, c3⟩ := goOn_8 (N := N) A hx hen hN g2 (i := 0) (b := 0) g4 g5 (Nat.zero_le _) (Nat.zero_le _) (Or.inl g0)
  rw [g0] at c3
  have HK : TLS L0 rd xx t en tx (skN tx en 0) 0 (-1) := by
    refine ⟨A.q c2, c3, by rw [c2.1.2.2.1]; exact h6, S.of (fun b _ _ => by rw [c2.1.2.1]) (fun b j _ _ _ => by rw [c2.1.2.2.1]), (c2.2 xx (fun e => A.2.2.2 e.symm)).trans hx, hd, hxx⟩
  have R0 : TRel L0 t m := R.frame fun b h1 h2 => c2.2 b (by omega)
  have hsb := sk_b (tx := tx) (Nat.zero_le en)
  unfold f_TxR_readLines_8
  rw [A.fc, ob, c1, ob, HK.A.fi, ob, HK.A.fi, ob, HK.C.2.1, HK.C.2.2.2.1]
  by_cases hend : en ≤ skN tx en 0
  · obtain ⟨fv, hfv⟩ : ∃ fv, N = fv + 1 := ⟨N - 1, by omega⟩
    rw [if_pos (iN_yle hend (by omega))]
    unfold f_TxR_readLines_8_20
    have e1 : f_TxR_readLines_8_23 N rd 14 N 0 0 L0 = some (1, L0) := by
      have : ∀ g, g = fv + 1 → f_TxR_readLines_8_23 N rd 14 g 0 0 L0 = some (1, L0) := fun g hg => by rw [hg]; exact tlines_none HK fv 0
      exact this N hfv
    refine ⟨L0, _, _, -1, m, e1, HK, c2.frt, fun _ => ⟨I, R0⟩, fun r hT r11 r12 hr => ?_⟩
    obtain ⟨q, m1, m2, m3, m4⟩ := skip_md hT hen hN (Nat.zero_le _) r11
    refine ⟨0, q, ?_, m2.ly, m3.trans r12, fun _ => by rw [m2.1]; exact hr⟩
    unfold f_R_read f_R_read_20
    rw [m1, ob, m4, (hT.lx m2).1, if_pos (iN_yle hend (by omega))]
    have : ∀ g, g = fv + 1 → f_R_read_23 N 0 g 0 0 q = some (0, q) := fun g hg => by rw [hg, f_R_read_23, if_pos rfl]
    exact this N hfv
  · rw [if_neg (iN_nle (by omega) (by omega))]
    unfold f_TxR_readLines_8_20
    obtain ⟨L, i', t', f', m', e1, e2, e3, e4, e5⟩ := tlines_loop (N := N) hen hN 14 L0 _ _ 0 m N (Nat.zero_add _) HK I R0 (by omega)
    refine ⟨L, i', t', f', m', e1, e2, c2.frt.trans e3, e4, fun r hT r11 r12 hr => ?_⟩
    obtain ⟨q, m1, m2, m3, m4⟩ := skip_md hT hen hN (Nat.zero_le _) r11
    obtain ⟨v, q2, p1, p2, p3, p4⟩ := e5 q N (hT.lx m2) (ML.at0 hsb.2 (sk_sk (Nat.zero_le _)) (m3.trans r12) m4) (by rw [m2.1]; exact hr) (by omega)
    refine ⟨v, q2, ?_, m2.ly.trans p2, p3, p4⟩
    unfold f_R_read f_R_read_20
    rw [m1, ob, m4, (hT.lx m2).1, if_neg (iN_nle (by omega) (by omega))]
    exact p1
/-- a reader of a town made anew -/
theorem reader_new (hx : m_kd M xx = (1, 400)) (hxs : xx < m_sz M) (hen : en ≤ 400) (t : Nat) : ∃ K, f_TR_init (m_sz M) xx (iN en) t (m_new M (18, 0)) = some K ∧ m_sz K = m_sz M + 1 ∧ (∀ b, b < m_sz M → m_kd K b = m_kd M b ∧ m_rv K b = m_rv M b ∧ m_iv K b = m_iv M b) ∧ (∀ b, m_sz M + 1 ≤ b → m_kd K b = m_kd M b) ∧ RS_8 K (m_sz M) xx ∧ m_rv K (m_sz M) 6 = some t ∧ (m_iv K (m_sz M) 0 = -1 ∧ m_iv K (m_sz M) 2 = iN en ∧ m_iv K (m_sz M) 4 = 0 ∧ m_iv K (m_sz M) 5 = 0) := by
  generalize ha : m_sz M = a at *
  have mn : f_Math_min (iN en) (iN 400) = some (iN en) := by
    rw [min_eq, if_neg (iN_nlt (by omega) (by omega))]
  generalize hN7 : m_new M (18, 0) = N7
  have s7 : m_sz N7 = a + 1 := by rw [← hN7, sz_n, ha]
  have k7 : ∀ b, m_kd N7 b = if b = a then (18, 0) else m_kd M b := fun b => by rw [← hN7, kd_n, ha]
  have i7 : ∀ b, m_iv N7 b = if b = a then fun _ => 0 else m_iv M b := fun b => by rw [← hN7, iv_n, ha]
  have r7 : ∀ b, m_rv N7 b = if b = a then fun _ => none else m_rv M b := fun b => by rw [← hN7, rv_n, ha]
  have kr7 : (m_kd N7 a).1 = 18 := by rw [k7, if_pos rfl]
  refine ⟨m_setR (m_setI (m_setR (m_setI N7 a 0 (-1)) a 1 (some xx)) a 2 (iN en)) a 6 (some t), ?_, s7, fun b hb => ⟨?_, ?_, ?_⟩, fun b hb => ?_, ⟨kr7, ?_, ?_, by omega⟩, ?_, ⟨?_, ?_, ?_, ?_⟩⟩
  · unfold f_TR_init f_TxR_init_8
    have kx : m_kd (m_setR (m_setI N7 a 0 (-1)) a 1 (some xx)) xx = (1, 400) := by
      show m_kd N7 xx = _
      rw [k7, if_neg (by omega)]
      exact hx
    have al : aln (m_setR (m_setI N7 a 0 (-1)) a 1 (some xx)) xx = some (iN 400) := by
      unfold aln
      rw [kx]
      rfl
    have q1 : pI N7 8 a 0 (-1) = some (m_setI N7 a 0 (-1)) := pI_k (ci := 8) kr7
    have q2 : pR (m_setI N7 a 0 (-1)) 8 a 1 xx = some (m_setR (m_setI N7 a 0 (-1)) a 1 (some xx)) := pR_k (ci := 8) kr7
    have q3 : pI (m_setR (m_setI N7 a 0 (-1)) a 1 (some xx)) 8 a 2 (iN en) = some (m_setI (m_setR (m_setI N7 a 0 (-1)) a 1 (some xx)) a 2 (iN en)) := pI_k (ci := 8) kr7
    have q4 : pR (m_setI (m_setR (m_setI N7 a 0 (-1)) a 1 (some xx)) a 2 (iN en)) 8 a 6 t = some (m_setR (m_setI (m_setR (m_setI N7 a 0 (-1)) a 1 (some xx)) a 2 (iN en)) a 6 (some t)) := pR_k (ci := 8) kr7
    rw [q1, ob, q2, ob, al, ob, mn, ob, q3, ob, ob, q4, ob]
  · show m_kd N7 b = _
    rw [k7, if_neg (by omega)]
  · rw [rv_R _ _ _ _ _ (by omega), rv_setI, rv_R _ _ _ _ _ (by omega), rv_setI, r7, if_neg (by omega)]
  · rw [iv_setR, iv_ne (by omega), iv_setR, iv_ne (by omega), i7, if_neg (by omega)]
  · show m_kd N7 b = _
    rw [k7, if_neg (by omega)]
  · rw [rv_setR, if_neg (by omega), rv_setI, rv_setR, if_pos ⟨rfl, rfl⟩]
  · show m_kd N7 xx = _
    rw [k7, if_neg (by omega)]
    exact hx
  · rw [rv_setR, if_pos ⟨rfl, rfl⟩]
  · rw [iv_setR, iv_same, up1_ne (by decide), iv_setR, iv_same, up1_same]
  · rw [iv_setR, iv_same, up1_same]
  · rw [iv_setR, iv_same, up1_ne (by decide), iv_setR, iv_same, up1_ne (by decide), i7, if_pos rfl]
  · rw [iv_setR, iv_same, up1_ne (by decide), iv_setR, iv_same, up1_ne (by decide), i7, if_pos rfl]
end Vs
