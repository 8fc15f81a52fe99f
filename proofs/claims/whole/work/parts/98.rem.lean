/-- the memory with one row of references put anew -/
def mP (M : Mem) (a : Nat) (f : Nat → Option Nat) : Mem := (m_sz M, m_kd M, m_iv M, fun b => if b = a then f else m_rv M b, m_lv M)
theorem mP_id (M : Mem) (a : Nat) : mP M a (m_rv M a) = M := by
  have h : (fun b => if b = a then m_rv M a else m_rv M b) = m_rv M := by
    funext b
    by_cases hb : b = a
    · rw [if_pos hb, hb]
    · rw [if_neg hb]
  show (m_sz M, m_kd M, m_iv M, (fun b => if b = a then m_rv M a else m_rv M b), m_lv M) = M
  rw [h]
  rfl
theorem mP_own (M : Mem) (a : Nat) (f : Nat → Option Nat) : m_rv (mP M a f) a = f := if_pos rfl
theorem mP_ne {M : Mem} {a : Nat} {f : Nat → Option Nat} {b : Nat} (h : b ≠ a) : m_rv (mP M a f) b = m_rv M b := if_neg h
theorem mP_set (M : Mem) (a : Nat) (f : Nat → Option Nat) (k : Nat) (v : Option Nat) : m_setR (mP M a f) a k v = mP M a (fun j => if j = k then v else f j) := by
  have h : up2 (fun b => if b = a then f else m_rv M b) a k v = (fun b => if b = a then (fun j => if j = k then v else f j) else m_rv M b) := by
    funext b j
    unfold up2
    by_cases hb : b = a
    · subst hb
      rw [if_pos rfl]
      by_cases hj : j = k
      · rw [if_pos ⟨rfl, hj⟩, if_pos hj]
      · rw [if_neg (fun q => hj q.2), if_neg hj]
        exact congrFun (if_pos rfl) j
    · rw [if_neg (fun q => hb q.1), if_neg hb]
      exact congrFun (if_neg hb) j
  show (m_sz M, m_kd M, m_iv M, up2 (fun b => if b = a then f else m_rv M b) a k v, m_lv M) = _
  rw [h]
  rfl
section Re
variable {N x o : Nat} {ps ys : Nat → Nat} {M K : Mem} {r q : Rho}
theorem GT.row {B t : Nat} {m : Nat → Int32} {f : Nat → Option Nat} (h : GT N B M t m) (ht : t ≠ x + 84) (hB : x + 84 < B) : GT N B (mP M (x + 84) f) t m := by
  obtain ⟨h1, h2, lw, h3, h4⟩ := h
  refine ⟨h1, h2.frame fun _ _ _ => rfl, lw, ?_, h4⟩
  rcases h3 with ⟨a1, a2⟩ | ⟨a, a1, a2, a3, a4⟩
  · exact Or.inl ⟨by rw [mP_ne ht]; exact a1, a2⟩
  · exact Or.inr ⟨a, by rw [mP_ne ht]; exact a1, a2, a3.cong (fun _ _ _ => rfl) (mP_ne (by omega)) fun _ _ _ _ => rfl, a4⟩
theorem rem_lt (G : GS N x o ps ys M r) (hN : 20000 ≤ N) {n : Nat} (hn : n < 12) (h6 : r.1 6 = iN n) : ∃ K q, f_CT_rememberAct_58 N x M = some K ∧ f_R_remembers_50 N r = some q ∧ GS N x o ps ys K q ∧ q.2 1 = r.2 1 ∧ q.1 0 = r.1 0 := by
  obtain ⟨A, ⟨k1, k2, k3, k4⟩, T, g, ⟨p1, p2, p3⟩, f, ⟨i1, i2⟩, ⟨a1, a2, a3⟩⟩ := G
  have hp := A.pl (i := n) hn
  have tn : isT x (x + 2) := Or.inl rfl
  have tp : isT x (x + 136 + 41 * ps n) := Or.inr (Or.inr (Or.inr ⟨ps n, hp, rfl⟩))
  have bp := isT_b tp
  obtain ⟨K, h1, C, h2⟩ := f_Town_copyFrom_eq (A.tp hp) A.tn (by omega) (show 500 < N by omega) g.cold
  have B1 := C.xs A tp
  have hx : m_iv K x = m_iv M x := C.2.1 x (by omega)
  refine ⟨m_setI K x 7 (iN (n + 1)), _, ?_, f_R_remembers_50_eq hN hn h6, ?_, ?_, rfl⟩
  · unfold f_CT_rememberAct_58
    rw [A.gP, ob, A.i, ob, a1, h6, A.pa hn, ob, A.gN, ob, (A.tp hp).c0, ob, h1, ob, B1.i, ob, hx, a1, h6, iN_s, B1.p, ob]
  · have e1 : (r_set (cpR 1 0 5 (900 * n) 900 r) 6 (iN (n + 1))).2 1 = r.2 1 := (cpR_ne (by decide) : (cpR 1 0 5 (900 * n) 900 r).2 1 = r.2 1)
    have e2 : (r_set (cpR 1 0 5 (900 * n) 900 r) 6 (iN (n + 1))).2 2 = r.2 2 := (cpR_ne (by decide) : (cpR 1 0 5 (900 * n) 900 r).2 2 = r.2 2)
    have e7 : (r_set (cpR 1 0 5 (900 * n) 900 r) 6 (iN (n + 1))).2 7 = r.2 7 := (cpR_ne (by decide) : (cpR 1 0 5 (900 * n) 900 r).2 7 = r.2 7)
    have e5 : ∀ i, (r_set (cpR 1 0 5 (900 * n) 900 r) 6 (iN (n + 1))).2 5 i = if 900 * n ≤ i ∧ i < 900 * n + 900 then r.2 1 (0 + (i - 900 * n)) else r.2 5 i := fun i => cpR_own 1 0 5 (900 * n) 900 r i
    have f3 : (r_set (cpR 1 0 5 (900 * n) 900 r) 6 (iN (n + 1))).1 3 = r.1 3 := rfl
    have f6 : (r_set (cpR 1 0 5 (900 * n) 900 r) 6 (iN (n + 1))).1 6 = iN (n + 1) := rfl
    have f8 : (r_set (cpR 1 0 5 (900 * n) 900 r) 6 (iN (n + 1))).1 8 = r.1 8 := rfl
    have f12 : (r_set (cpR 1 0 5 (900 * n) 900 r) 6 (iN (n + 1))).1 12 = r.1 12 := rfl
    have fz : Bz (r_set (cpR 1 0 5 (900 * n) 900 r) 6 (iN (n + 1))) = Bz r := rfl
    generalize r_set (cpR 1 0 5 (900 * n) 900 r) 6 (iN (n + 1)) = q at *
    have ix : ∀ j, j ≠ 7 → m_iv (m_setI K x 7 (iN (n + 1))) x j = m_iv M x j := fun j hj => by rw [iv_same, up1_ne hj, hx]
    refine ⟨B1.kr rfl rfl rfl, ⟨by show m_kd K o = _; rw [C.1.2.1]; exact k1, k2, by show o < m_sz K; rw [C.1.1]; exact k3, fun b hb => by show (m_kd K b).1 = 0; rw [C.1.2.1]; exact k4 b (by rw [← C.1.1]; exact hb)⟩, fun g hg => ?_, ?_, ?_, ?_, ⟨?_, ?_⟩, ⟨?_, ?_, fun k hk => ?_⟩⟩
    · rw [iv_ne (by omega), C.2.1 _ (by omega)]; exact T g hg
    · rw [e1]
      exact (C.gt g bp.2.1 (by omega) (by omega)).fld tn
    · refine ⟨?_, by rw [f8]; exact p2, fun k hk => ?_⟩
      · rw [ix 1 (by decide), f8]; exact p1
      · rw [iv_ne (by omega), C.2.1 _ (by omega), e7]; exact p3 k hk
    · exact ⟨by rw [ix 2 (by decide), f12]; exact f.1, by rw [fz]; exact f.2⟩
    · rw [ix 5 (by decide), f3]; exact i1
    · rw [f3, e2]
      exact i2.imp id fun w => ⟨w.1, (C.gt w.2 bp.2.1 (by omega) (by omega)).fld (Or.inr (Or.inl rfl))⟩
    · rw [iv_same, up1_same, f6]
    · rw [f6]; exact ⟨n + 1, by omega, rfl⟩
    · rw [f6, iN_cl (by omega)] at hk
      by_cases hkn : k = n
      · subst hkn
        have ea : acM q k = r.2 1 := by
          funext j
          unfold acM
          rw [e1]
          by_cases hj : j < 900
          · rw [if_pos hj, e5, if_pos (by omega), show 0 + (900 * k + j - 900 * k) = j by omega]
          · rw [if_neg hj]
        rw [ea]
        exact (C.gtS h2 g bp.2.1).fld tp
      · have hp2 := A.pl (i := k) (by omega)
        have tp2 : isT x (x + 136 + 41 * ps k) := Or.inr (Or.inr (Or.inr ⟨ps k, hp2, rfl⟩))
        have hne : ps k ≠ ps n := fun e => hkn (A.2.2.2.2.1 k n (by omega) hn e)
        have ea : acM q k = acM r k := by
          funext j
          unfold acM
          rw [e1]
          by_cases hj : j < 900
          · rw [if_pos hj, if_pos hj, e5, if_neg (by omega)]
          · rw [if_neg hj, if_neg hj]
        rw [ea]
        have h6n : (r.1 6).toNatClampNeg = n := by rw [h6, iN_cl (by omega)]
        exact (C.gt (a3 k (by omega)) bp.2.1 (isT_b tp2).2.1 (isT_ne (fun e => hne e.symm) hp hp2)).fld tp2
  · exact (cpR_ne (by decide) : (cpR 1 0 5 (900 * n) 900 r).2 1 = r.2 1)
def rtF (old : Nat → Option Nat) (k : Nat) : Nat → Option Nat := fun j => if j + 1 < k then old (j + 1) else old j
theorem rot_12 (G : GS N x o ps ys M r) (hN : 20000 ≤ N) (h6 : r.1 6 = iN 12) : ∃ M1, f_CT_rememberAct N x M = f_CT_rememberAct_58 N x M1 ∧ GS N x o (fun k => ps ((k + 1) % 12)) ys M1 (r_set (cpR 5 900 5 0 9900 r) 6 (iN 11)) := by
  obtain ⟨A, ⟨k1, k2, k3, k4⟩, T, g, ⟨p1, p2, p3⟩, f, ⟨i1, i2⟩, ⟨a1, a2, a3⟩⟩ := G
  have row : ∀ i, i < 12 → m_rv M (x + 84) i = some (x + 136 + 41 * ps i) := fun i hi => (A.2.2.2.1 i hi).2
  have gp : ∀ f, gR (mP M (x + 84) f) 10 x 6 = some (x + 84) := fun f => by
    have h : m_rv (mP M (x + 84) f) x = m_rv M x := mP_ne (by omega)
    exact (gR_k (M := mP M (x + 84) f) (ci := 10) A.kx).trans (by rw [h]; exact A.1.2.2.2.2.1)
  have key : ∀ (j k fuel : Nat), k + j = 12 → 1 ≤ k → j < fuel → f_CT_rememberAct_18 N x fuel (x + 136 + 41 * ps 0) (iN k) (mP M (x + 84) (rtF (m_rv M (x + 84)) k)) = f_CT_rememberAct_58 N x (m_setI (mP M (x + 84) (fun i => if i = 11 then some (x + 136 + 41 * ps 0) else rtF (m_rv M (x + 84)) 12 i)) x 7 11) := by
    intro j
    induction j with
    | zero =>
      intro k fuel hk h1 hf
      obtain ⟨fu, rfl⟩ : ∃ fu, fuel = fu + 1 := ⟨fuel - 1, by omega⟩
      obtain rfl : k = 12 := by omega
      have e : ars (mP M (x + 84) (rtF (m_rv M (x + 84)) 12)) 3 (x + 84) 11 (x + 136 + 41 * ps 0) = some (mP M (x + 84) (fun i => if i = 11 then some (x + 136 + 41 * ps 0) else rtF (m_rv M (x + 84)) 12 i)) := by
        unfold ars
        have hk3 : m_kd (mP M (x + 84) (rtF (m_rv M (x + 84)) 12)) (x + 84) = (3, 12) := A.2.1.2
        have hk7 : (m_kd (mP M (x + 84) (rtF (m_rv M (x + 84)) 12)) (x + 136 + 41 * ps 0)).1 = 17 := (A.tp (A.pl (i := 0) (by decide))).k0
        rw [hk3, if_pos ⟨rfl, by decide, hk7⟩]
        exact congrArg some (mP_set M (x + 84) _ 11 _)
      rw [f_CT_rememberAct_18, if_pos (show (12 : Int32) ≤ iN 12 from i_le_rfl 12), gp, ob, e, ob, show pI (mP M (x + 84) (fun i => if i = 11 then some (x + 136 + 41 * ps 0) else rtF (m_rv M (x + 84)) 12 i)) 10 x 7 11 = some (m_setI (mP M (x + 84) (fun i => if i = 11 then some (x + 136 + 41 * ps 0) else rtF (m_rv M (x + 84)) 12 i)) x 7 11) from pI_k (ci := 10) A.kx, ob]
    | succ j ih =>
      intro k fuel hk h1 hf
      obtain ⟨fu, rfl⟩ : ∃ fu, fuel = fu + 1 := ⟨fuel - 1, by omega⟩
      have hk12 : k < 12 := by omega
      have e0 : ard (mP M (x + 84) (rtF (m_rv M (x + 84)) k)) 3 (x + 84) (iN k) = some (x + 136 + 41 * ps k) := by
        refine (ard_iN (M := mP M (x + 84) (rtF (m_rv M (x + 84)) k)) A.2.1.2 hk12 (by decide)).trans ?_
        rw [mP_own]
        unfold rtF
        rw [if_neg (by omega)]
        exact row k hk12
      have e : ars (mP M (x + 84) (rtF (m_rv M (x + 84)) k)) 3 (x + 84) (iN (k - 1)) (x + 136 + 41 * ps k) = some (mP M (x + 84) (rtF (m_rv M (x + 84)) (k + 1))) := by
        unfold ars
        have hk3 : m_kd (mP M (x + 84) (rtF (m_rv M (x + 84)) k)) (x + 84) = (3, 12) := A.2.1.2
        have hk7 : (m_kd (mP M (x + 84) (rtF (m_rv M (x + 84)) k)) (x + 136 + 41 * ps k)).1 = 17 := (A.tp (A.pl (i := k) hk12)).k0
        rw [hk3, if_pos ⟨rfl, inR_iN (by omega) (by omega), hk7⟩, iN_cl (by omega), mP_set]
        refine congrArg (fun f => some (mP M (x + 84) f)) (funext fun i => ?_)
        unfold rtF
        by_cases hi : i = k - 1
        · rw [if_pos hi, if_pos (by omega), hi, show k - 1 + 1 = k by omega]
          exact (row k hk12).symm
        · rw [if_neg hi]
          by_cases h2 : i + 1 < k
          · rw [if_pos h2, if_pos (by omega)]
          · rw [if_neg h2, if_neg (by omega)]
      rw [f_CT_rememberAct_18, if_neg (show ¬ (12 : Int32) ≤ iN k from iN_nle (n := 12) hk12 (by decide)), gp, ob, ob, e0, ob, show iN k - 1 = iN (k - 1) from iN_sub (b := 1) h1, e, ob, iN_s]
      exact ih (k + 1) fu (by omega) (by omega) (by omega)
  have h0 : rtF (m_rv M (x + 84)) 1 = m_rv M (x + 84) := by
    funext j
    unfold rtF
    rw [if_neg (by omega)]
  have k1' := key 11 1 N (by decide) (by decide) (by omega)
  rw [h0, mP_id] at k1'
  generalize hF : (fun i => if i = 11 then some (x + 136 + 41 * ps 0) else rtF (m_rv M (x + 84)) 12 i) = F at k1'
  have rowF : ∀ i, i < 12 → F i = some (x + 136 + 41 * ps ((i + 1) % 12)) := fun i hi => by
    rw [← hF]
    dsimp only
    by_cases h : i = 11
    · rw [if_pos h, h]
    · rw [if_neg h]
      unfold rtF
      rw [if_pos (by omega), row (i + 1) (by omega), Nat.mod_eq_of_lt (by omega)]
  refine ⟨m_setI (mP M (x + 84) F) x 7 11, ?_, ?_⟩
  · unfold f_CT_rememberAct
    rw [A.i, ob, a1, h6, if_pos (show iN 12 = 12 from rfl), A.gP, ob, show ard M 3 (x + 84) 0 = some (x + 136 + 41 * ps 0) from A.pa (i := 0) (by decide), ob]
    exact k1'
  · have hB : x + 84 < x + 628 := by omega
    have AF : XSk (mP M (x + 84) F) x (fun k => ps ((k + 1) % 12)) ys := by
      unfold XSk at A ⊢
      obtain ⟨b1, b2, ⟨b3, b4, b5, b6⟩, b7, b8, b9, b10, b11⟩ := A
      have sh : ∀ {u : Nat}, isT x u → Shape M u → Shape (mP M (x + 84) F) u := fun {u} hu S => S.of (fun _ _ _ => rfl) (fun b j h1 h2 _ => by
        have := isT_b hu
        rw [mP_ne (by omega)])
      rw [mP_ne (b := x) (by omega), mP_own, mP_ne (b := x + 126) (by omega), mP_ne (b := x + 132) (by omega)]
      refine ⟨b1, b2, ⟨sh (Or.inl rfl) b3, sh (Or.inr (Or.inl rfl)) b4, sh (Or.inr (Or.inr (Or.inl rfl))) b5, fun i hi => sh (Or.inr (Or.inr (Or.inr ⟨i, hi, rfl⟩))) (b6 i hi)⟩, fun i hi => ⟨(b7 _ (Nat.mod_lt _ (by decide))).1, rowF i hi⟩, fun i j hi hj e => ?_, b9, b10, b11⟩
      have := b8 _ _ (Nat.mod_lt _ (by decide)) (Nat.mod_lt _ (by decide)) e
      omega
    have e1 : (r_set (cpR 5 900 5 0 9900 r) 6 (iN 11)).2 1 = r.2 1 := (cpR_ne (by decide) : (cpR 5 900 5 0 9900 r).2 1 = r.2 1)
    have e2 : (r_set (cpR 5 900 5 0 9900 r) 6 (iN 11)).2 2 = r.2 2 := (cpR_ne (by decide) : (cpR 5 900 5 0 9900 r).2 2 = r.2 2)
    have e7 : (r_set (cpR 5 900 5 0 9900 r) 6 (iN 11)).2 7 = r.2 7 := (cpR_ne (by decide) : (cpR 5 900 5 0 9900 r).2 7 = r.2 7)
    have e5 : ∀ i, (r_set (cpR 5 900 5 0 9900 r) 6 (iN 11)).2 5 i = if 0 ≤ i ∧ i < 0 + 9900 then r.2 5 (900 + (i - 0)) else r.2 5 i := fun i => cpR_own 5 900 5 0 9900 r i
    have f3 : (r_set (cpR 5 900 5 0 9900 r) 6 (iN 11)).1 3 = r.1 3 := rfl
    have f6 : (r_set (cpR 5 900 5 0 9900 r) 6 (iN 11)).1 6 = iN 11 := rfl
    have f8 : (r_set (cpR 5 900 5 0 9900 r) 6 (iN 11)).1 8 = r.1 8 := rfl
    have f12 : (r_set (cpR 5 900 5 0 9900 r) 6 (iN 11)).1 12 = r.1 12 := rfl
    have fz : Bz (r_set (cpR 5 900 5 0 9900 r) 6 (iN 11)) = Bz r := rfl
    generalize r_set (cpR 5 900 5 0 9900 r) 6 (iN 11) = q at *
    have ix : ∀ j, j ≠ 7 → m_iv (m_setI (mP M (x + 84) F) x 7 11) x j = m_iv M x j := fun j hj => by rw [iv_same, up1_ne hj]; rfl
    have tn : isT x (x + 2) := Or.inl rfl
    have tk : isT x (x + 43) := Or.inr (Or.inl rfl)
    refine ⟨AF.kr rfl rfl rfl, ⟨k1, k2, k3, k4⟩, fun g hg => ?_, ?_, ?_, ?_, ⟨?_, ?_⟩, ⟨?_, ?_, fun k hk => ?_⟩⟩
    · rw [iv_ne (by omega)]; exact T g hg
    · rw [e1]
      exact (g.row (by omega) hB).fld tn
    · refine ⟨?_, by rw [f8]; exact p2, fun k hk => ?_⟩
      · rw [ix 1 (by decide), f8]; exact p1
      · rw [iv_ne (by omega), e7]; exact p3 k hk
    · exact ⟨by rw [ix 2 (by decide), f12]; exact f.1, by rw [fz]; exact f.2⟩
    · rw [ix 5 (by decide), f3]; exact i1
    · rw [f3, e2]
      exact i2.imp id fun w => ⟨w.1, (w.2.row (by omega) hB).fld tk⟩
    · rw [iv_same, up1_same, f6]
      rfl
    · rw [f6]; exact ⟨11, by decide, rfl⟩
    · rw [f6, iN_cl (by omega)] at hk
      have hm : (k + 1) % 12 = k + 1 := Nat.mod_eq_of_lt (by omega)
      have hp2 := A.pl (i := k + 1) (by omega)
      have tp2 : isT x (x + 136 + 41 * ps (k + 1)) := Or.inr (Or.inr (Or.inr ⟨_, hp2, rfl⟩))
      have ea : acM q k = acM r (k + 1) := by
        funext j
        unfold acM
        rw [e1]
        by_cases hj : j < 900
        · rw [if_pos hj, if_pos hj, e5, if_pos (by omega), show 900 + (900 * k + j - 0) = 900 * (k + 1) + j by omega]
        · rw [if_neg hj, if_neg hj]
      rw [ea]
      dsimp only
      rw [hm]
      have h12n : (r.1 6).toNatClampNeg = 12 := by rw [h6, iN_cl (by omega)]
      exact ((a3 (k + 1) (by omega)).row (by omega) hB).fld tp2
theorem remember (G : GS N x o ps ys M r) (hN : 20000 ≤ N) : ∃ K q ps2, f_CT_rememberAct N x M = some K ∧ f_R_remembers N r = some q ∧ GS N x o ps2 ys K q ∧ q.2 1 = r.2 1 ∧ q.1 0 = r.1 0 := by
  obtain ⟨n6, n6b⟩ := nb_c G.2.2.2.2.2.2.2.2.1 (by decide)
  generalize hn : (r.1 6).toNatClampNeg = n at *
  by_cases h12 : n = 12
  · subst h12
    obtain ⟨M1, h1, G1⟩ := rot_12 G hN n6
    obtain ⟨K, q, e1, e2, G2, e3, e4⟩ := rem_lt G1 hN (n := 11) (by decide) (set_s _ 6 _)
    refine ⟨K, q, _, by rw [h1, e1], by rw [f_R_remembers_12 hN n6, e2], G2, e3.trans (cpR_ne (by decide) : (cpR 5 900 5 0 9900 r).2 1 = r.2 1), e4⟩
  · obtain ⟨K, q, e1, e2, G2, e3, e4⟩ := rem_lt G hN (n := n) (by omega) n6
    have hne : ¬ iN n = 12 := iN_ne (b := 12) h12 (by omega) (by decide)
    refine ⟨K, q, ps, ?_, ?_, G2, e3, e4⟩
    · unfold f_CT_rememberAct
      rw [G.A.i, ob, G.2.2.2.2.2.2.2.1, n6, if_neg hne, e1]
    · unfold f_R_remembers
      rw [n6, if_neg hne, e2]
end Re
