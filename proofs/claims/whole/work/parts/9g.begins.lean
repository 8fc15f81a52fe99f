section Bg
variable {N x o t B : Nat} {ps ys : Nat → Nat} {M K : Mem} {r q : Rho} {a b d e v ln rule : Int32} {n p s c k : Nat} {m m2 : Nat → Int32} {lw : (Nat → Int32) → Int32}
theorem miN {a b : Nat} (ha : a < 100) (hb : b < 100) : (if iN b < iN a then iN b else iN a) = iN (min a b) := by
  by_cases h : b < a
  · rw [if_pos (iN_ylt h (by omega)), show min a b = b by omega]
  · rw [if_neg (iN_nlt (by omega) (by omega)), show min a b = a by omega]
theorem maN {a b : Nat} (ha : a < 100) (hb : b < 100) : (if iN a < iN b then iN b else iN a) = iN (max a b) := by
  by_cases h : a < b
  · rw [if_pos (iN_ylt h (by omega)), show max a b = b by omega]
  · rw [if_neg (iN_nlt (by omega) (by omega)), show max a b = a by omega]
/-- who begins -/
def bnM (m : Nat → Int32) (rule : Int32) (x y : Nat) : Nat := if rule = 0 then (if pC m y 2 ≤ pC m x 2 then x else y) else (if rule = 1 then (if pC m x 2 ≤ pC m y 2 then x else y) else x)
theorem bnM_or (m : Nat → Int32) (rule : Int32) (x y : Nat) : bnM m rule x y = x ∨ bnM m rule x y = y := by
  unfold bnM
  by_cases h : rule = 0
  · rw [if_pos h]
    by_cases h2 : pC m y 2 ≤ pC m x 2
    · rw [if_pos h2]; exact Or.inl rfl
    · rw [if_neg h2]; exact Or.inr rfl
  · rw [if_neg h]
    by_cases h1 : rule = 1
    · rw [if_pos h1]
      by_cases h2 : pC m x 2 ≤ pC m y 2
      · rw [if_pos h2]; exact Or.inl rfl
      · rw [if_neg h2]; exact Or.inr rfl
    · rw [if_neg h1]; exact Or.inl rfl
theorem f_Town_beginner_eq (S : Shape M t) (I : Inv m) (R : TRel M t m) (hp : p < cn m 5) (hs : s < cn m 5) : f_Town_beginner t rule (iN p) (iN s) M = some (iN (bnM m rule p s)) := by
  have h5 := I.b5
  unfold f_Town_beginner f_Town_beginner_57 f_Town_beginner_58 bnM
  rw [S.g_people, ob, S.g_person (by omega), ob, S.iP (by omega), ob, ob, S.g_person (by omega), ob, S.iP (by omega), ob, R.q2 I hp, R.q2 I hs]
  by_cases h : rule = 0
  · rw [if_pos h, if_pos h]
    by_cases h2 : pC m s 2 ≤ pC m p 2
    · rw [if_pos h2, if_pos h2, if_pos rfl]
    · rw [if_neg h2, if_neg h2, if_neg i1n]
  · rw [if_neg h, if_neg h]
    by_cases h1 : rule = 1
    · rw [if_pos h1, if_pos h1]
      by_cases h2 : pC m p 2 ≤ pC m s 2
      · rw [if_pos h2, if_pos h2, if_pos rfl]
      · rw [if_neg h2, if_neg h2, if_neg i1n]
    · rw [if_neg h1, if_neg h1, if_pos rfl]
theorem f_R_beginner_eq (hp : p < 10) (hs : s < 10) : f_R_beginner (iN p) (iN s) rule r = some (iN (bnM (r.2 1) rule (min p s) (max p s))) := by
  have h1 : min p s < 10 := by omega
  have h2 : max p s < 10 := by omega
  unfold f_R_beginner bnM
  rw [lesser_eq, ob, greater_eq, ob, miN (by omega) (by omega), maN (by omega) (by omega), of2 h2, of2 h1, ob, ob, ob, ob]
  by_cases h : rule = 0
  · rw [if_pos h, if_pos h]
    by_cases h2 : pC (r.2 1) (max p s) 2 ≤ pC (r.2 1) (min p s) 2
    · rw [if_pos h2, if_pos h2]
    · rw [if_neg h2, if_neg h2]
  · rw [if_neg h, if_neg h]
    by_cases h1 : rule = 1
    · rw [if_pos h1, if_pos h1]
      by_cases h2 : pC (r.2 1) (min p s) 2 ≤ pC (r.2 1) (max p s) 2
      · rw [if_pos h2, if_pos h2]
      · rw [if_neg h2, if_neg h2]
    · rw [if_neg h1, if_neg h1]
/-- what the meetings along all ties cost by a rule -/
def brT (lw : (Nat → Int32) → Int32) (m : Nat → Int32) (rule : Int32) (x y : Nat) : Int32 := costM m (bgM lw m x y) (bgM lw m y x) * (100 - pC m (x + y - bnM m rule x y) 3)
def brS (lw : (Nat → Int32) → Int32) (m : Nat → Int32) (rule : Int32) (k : Nat) (z : Int32) : Int32 := z + brT lw m rule (min (cn m (372 + 2 * k)) (cn m (372 + 2 * k + 1))) (max (cn m (372 + 2 * k)) (cn m (372 + 2 * k + 1)))
def brM (lw : (Nat → Int32) → Int32) (m : Nat → Int32) (rule : Int32) : Int32 := lp (brS lw m rule) (cn m 6) 0 0
theorem tie_n (I : Inv m) (hk : k < cn m 6) : cn m (372 + 2 * k) < cn m 5 ∧ cn m (372 + 2 * k + 1) < cn m 5 ∧ cn m (372 + 2 * k) ≠ cn m (372 + 2 * k + 1) ∧ tieOf m k (cn m (372 + 2 * k)) (cn m (372 + 2 * k + 1)) := by
  obtain ⟨a, b, h1, h2, h3, h4, h5⟩ := I.t hk
  have hb := I.b5
  have e1 : cn m (372 + 2 * k) = a := (congrArg Int32.toNatClampNeg h4).trans (iN_cl (by omega))
  have e2 : cn m (372 + 2 * k + 1) = b := (congrArg Int32.toNatClampNeg h5).trans (iN_cl (by omega))
  rw [e1, e2]
  exact ⟨h1, h2, h3, h4, h5⟩
theorem f_Town_costByRule_eq (S : Shape M t) (I : Inv m) (R : TRel M t m) (W : WRel M t B lw ln) (ht : t + 41 ≤ B) (hN : 500 < N) : ∃ K, f_Town_costByRule N t rule M = some (brM lw m rule, K) ∧ Fr 0 0 B M K := by
  have h5 := I.b5
  have h6 := I.b6
  have key : ∀ (j k fuel : Nat) (z : Int32) (K : Mem), k + j = cn m 6 → j < fuel → Fr 0 0 B M K → ∃ L, f_Town_costByRule_4 N t rule fuel z (iN k) K = some (lp (brS lw m rule) j k z, L) ∧ Fr 0 0 B M L := by
    intro j
    induction j with
    | zero =>
      intro k fuel z K hk hf F
      obtain ⟨fu, rfl⟩ : ∃ fu, fuel = fu + 1 := ⟨fuel - 1, by omega⟩
      have SK := F.shape S
      have RK := F.tRel0 R ht
      refine ⟨K, ?_, F⟩
      rw [f_Town_costByRule_4, SK.i0, ob, RK.v6, I.n6, if_pos (iN_yle (by omega) (by omega))]
      rfl
    | succ j ih =>
      intro k fuel z K hk hf F
      obtain ⟨fu, rfl⟩ : ∃ fu, fuel = fu + 1 := ⟨fuel - 1, by omega⟩
      have SK := F.shape S
      have RK := F.tRel0 R ht
      have WK := F.wRel W
      obtain ⟨hp, hs, hps, t1, t2⟩ := tie_n I (k := k) (by omega)
      obtain ⟨eA, eB⟩ := RK.E k (by omega)
      rw [t1] at eA
      rw [t2] at eB
      have ez : brS lw m rule k z = z + brT lw m rule (min (cn m (372 + 2 * k)) (cn m (372 + 2 * k + 1))) (max (cn m (372 + 2 * k)) (cn m (372 + 2 * k + 1))) := rfl
      generalize cn m (372 + 2 * k) = u at *
      generalize cn m (372 + 2 * k + 1) = w at *
      have hx : min u w < cn m 5 := by omega
      have hy : max u w < cn m 5 := by omega
      have hxy : min u w < max u w := by omega
      have eM : (if iN w < iN u then iN w else iN u) = iN (min u w) := miN (by omega) (by omega)
      have eX : (if iN u < iN w then iN w else iN u) = iN (max u w) := maN (by omega) (by omega)
      generalize min u w = x at *
      generalize max u w = y at *
      obtain ⟨K1, c1, F1⟩ := f_Town_greetingFor_eq (N := N) SK I RK WK ht hN hx hy
      have F1 := F.trans F1
      obtain ⟨K2, c2, F2⟩ := f_Town_greetingFor_eq (N := N) (F1.shape S) I (F1.tRel0 R ht) (F1.wRel W) ht hN hy hx
      have F2 := F1.trans F2
      have S1 := F1.shape S
      have S2 := F2.shape S
      have R2 := F2.tRel0 R ht
      obtain ⟨L, l1, l2⟩ := ih (k + 1) fu (brS lw m rule k z) K2 (by omega) (by omega) F2
      refine ⟨L, ?_, l2⟩
      rw [f_Town_costByRule_4, SK.i0, ob, RK.v6, I.n6, if_neg (iN_nle (by omega) (by omega)), SK.g_who, ob, SK.a7 (by omega), ob, SK.g_whom, ob, SK.a8 (by omega), ob, eA, eB, min_eq, ob, ob, SK.a7 (by omega), ob, ob, SK.a8 (by omega), ob, eA, eB, max_eq, ob, eM, eX, SK.g_lands, ob, SK.g_manners, ob, SK.c0, ob, c1, ob]
      dsimp only
      rw [S1.c0, ob, c2, ob]
      dsimp only
      rw [S2.c2, ob, R2.cost S2, ob, S2.c0, ob, f_Town_beginner_eq S2 I R2 hx hy, ob]
      unfold f_Town_costByRule_95
      show _ = some (lp (brS lw m rule) j (k + 1) (brS lw m rule k z), L)
      rw [← l1, ez]
      unfold brT
      rcases bnM_or m rule x y with h | h
      · rw [h, if_pos rfl, S2.g_people, ob, S2.g_person (by omega), ob, S2.iP (by omega), ob, R2.q3 I hy, show x + y - x = y by omega, iN_s]
      · rw [h, if_neg (iN_ne (show y ≠ x by omega) (by omega) (by omega)), S2.g_people, ob, S2.g_person (by omega), ob, S2.iP (by omega), ob, R2.q3 I hx, show x + y - y = x by omega, iN_s]
  unfold f_Town_costByRule
  exact key (cn m 6) 0 N 0 M (by omega) (by omega) Fr.refl
theorem f_R_byRule_eq (I : Inv (r.2 1)) (K : RdOK N (r.2 1) lw) (hl : LwOK lw) (hN : 500 < N) : ∃ q, f_R_byRule N rule r = some (brM lw (r.2 1) rule, q) ∧ Sr r q := by
  have h5 := I.b5
  have h6 := I.b6
  have key : ∀ (j k fuel : Nat) (z : Int32) (q : Rho), k + j = cn (r.2 1) 6 → j < fuel → Sr r q → ∃ s, f_R_byRule_4 N rule fuel z (iN k) q = some (lp (brS lw (r.2 1) rule) j k z, s) ∧ Sr r s := by
    intro j
    induction j with
    | zero =>
      intro k fuel z q hk hf F
      obtain ⟨fu, rfl⟩ : ∃ fu, fuel = fu + 1 := ⟨fuel - 1, by omega⟩
      have e1 : q.2 1 = r.2 1 := F.1.1.1
      refine ⟨q, ?_, F⟩
      rw [f_R_byRule_4, rlm6, ob, e1, I.n6, if_pos (iN_yle (by omega) (by omega))]
      rfl
    | succ j ih =>
      intro k fuel z q hk hf F
      obtain ⟨fu, rfl⟩ : ∃ fu, fuel = fu + 1 := ⟨fuel - 1, by omega⟩
      have e1 : q.2 1 = r.2 1 := F.1.1.1
      obtain ⟨hp, hs, hps, t1, t2⟩ := tie_n I (k := k) (by omega)
      have ez : brS lw (r.2 1) rule k z = z + brT lw (r.2 1) rule (min (cn (r.2 1) (372 + 2 * k)) (cn (r.2 1) (372 + 2 * k + 1))) (max (cn (r.2 1) (372 + 2 * k)) (cn (r.2 1) (372 + 2 * k + 1))) := rfl
      have eA : f_R_who (iN k) q = some (iN (cn (r.2 1) (372 + 2 * k))) := by rw [who_k (by omega), e1, t1]
      have eB : f_R_whom (iN k) q = some (iN (cn (r.2 1) (372 + 2 * k + 1))) := by rw [whom_k (by omega), e1, t2]
      generalize cn (r.2 1) (372 + 2 * k) = u at *
      generalize cn (r.2 1) (372 + 2 * k + 1) = w at *
      have eN : f_R_beginner (iN u) (iN w) rule q = some (iN (bnM (r.2 1) rule (min u w) (max u w))) := by rw [f_R_beginner_eq (by omega) (by omega), e1]
      have hx : min u w < cn (r.2 1) 5 := by omega
      have hy : max u w < cn (r.2 1) 5 := by omega
      have hxy : min u w < max u w := by omega
      have hsum : u + w = min u w + max u w := by omega
      have es : iN u + iN w = iN (min u w + max u w) := by rw [iN_add, hsum]
      generalize min u w = x at *
      generalize max u w = y at *
      have cold : ∀ g, g < cn (r.2 1) 5 → pC (r.2 1) g 4 = 0 ∨ pC (r.2 1) g 4 = 1 := fun g hg => (I.p hg).2.1
      have two : ∀ g h, (g = x ∧ h = y) ∨ (g = y ∧ h = x) → ∃ q2, (((f_R_beginning N (iN g) (iN h) q).bind fun z7 => (f_R_beginning N (iN h) (iN g) z7.2).bind fun z8 => (f_R_costOf z7.1 z8.1 z8.2).bind fun z9 => (f_R_of (iN h) 3 z8.2).bind fun z10 => f_R_byRule_4 N rule fu (z + (z9 * (100 - z10))) (iN k + 1) z8.2) = f_R_byRule_4 N rule fu (z + costM (r.2 1) (bgM lw (r.2 1) x y) (bgM lw (r.2 1) y x) * (100 - pC (r.2 1) h 3)) (iN (k + 1)) q2) ∧ Sr r q2 := by
        intro g h hgh
        have hg : g < cn (r.2 1) 5 := by omega
        have hh : h < cn (r.2 1) 5 := by omega
        obtain ⟨q1, m1, s1⟩ := f_R_beginning_eq (N := N) (r := q) (lw := lw) (p := g) (o := h) (by rw [e1]; exact K) (by omega) (by omega) (by rw [e1]; exact cold g hg) (by rw [e1]; exact cold h hh)
        have s1 := F.trans s1
        have e2 : q1.2 1 = r.2 1 := s1.1.1.1
        obtain ⟨q2, m2, s2⟩ := f_R_beginning_eq (N := N) (r := q1) (lw := lw) (p := h) (o := g) (by rw [e2]; exact K) (by omega) (by omega) (by rw [e2]; exact cold h hh) (by rw [e2]; exact cold g hg)
        have s2 := s1.trans s2
        have e3 : q2.2 1 = r.2 1 := s2.1.1.1
        refine ⟨q2, ?_, s2⟩
        rw [m1, ob]
        dsimp only
        rw [m2, ob]
        dsimp only
        rw [f_R_costOf_eq, ob, of3 (by omega), ob, e1, e2, e3, iN_s]
        rcases hgh with ⟨rfl, rfl⟩ | ⟨rfl, rfl⟩
        · rfl
        · rw [costM_comm (bgM_ok I hl hy (by omega)) (bgM_ok I hl hx (by omega))]
      have fin : ∀ h, ((bnM (r.2 1) rule x y = x ∧ h = y) ∨ (bnM (r.2 1) rule x y = y ∧ h = x)) → ∃ q2, f_R_byRule_4 N rule (fu + 1) z (iN k) q = f_R_byRule_4 N rule fu (brS lw (r.2 1) rule k z) (iN (k + 1)) q2 ∧ Sr r q2 := by
        intro h hh
        have eh : x + y - bnM (r.2 1) rule x y = h := by omega
        obtain ⟨q2, a1, a2⟩ := two (bnM (r.2 1) rule x y) h hh
        refine ⟨q2, ?_, a2⟩
        rw [f_R_byRule_4, rlm6, ob, e1, I.n6, if_neg (iN_nle (by omega) (by omega)), eA, ob, eB, ob, eN, ob, ob, ob, es, iN_sub (by omega), eh, a1, ez]
        unfold brT
        rw [eh]
      obtain ⟨q2, a1, a2⟩ : ∃ q2, f_R_byRule_4 N rule (fu + 1) z (iN k) q = f_R_byRule_4 N rule fu (brS lw (r.2 1) rule k z) (iN (k + 1)) q2 ∧ Sr r q2 := by
        rcases bnM_or (r.2 1) rule x y with h | h
        · exact fin y (Or.inl ⟨h, rfl⟩)
        · exact fin x (Or.inr ⟨h, rfl⟩)
      rw [a1]
      exact ih (k + 1) fu _ q2 (by omega) (by omega) a2
  unfold f_R_byRule
  exact key (cn (r.2 1) 6) 0 N 0 r (by omega) (by omega) (Sr.refl r)
/-- the first rule with the least -/
def bsS (f : Int32 → Int32) (k : Nat) (z : Int32) : Int32 := if f z ≤ f (iN k) then z else iN k
theorem begins_cl (G : GS N x o ps ys M r) (W : WRel M (x + 2) (x + 628) lw ln) (hN : 500 < N) : ∀ (j k fuel : Nat) (z : Int32) (K : Mem), k + j = 3 → j < fuel → Fr 0 0 (x + 628) M K → ∃ L, f_CT_begins_24 N x a fuel z (iN k) K = some (.inl (lp (bsS (brM lw (r.2 1))) j k z), L) ∧ Fr 0 0 (x + 628) M L := by
  intro j
  induction j with
  | zero =>
    intro k fuel z K hk hf F
    obtain ⟨fu, rfl⟩ : ∃ fu, fuel = fu + 1 := ⟨fuel - 1, by omega⟩
    exact ⟨K, by rw [f_CT_begins_24, if_pos (show (3 : Int32) ≤ iN k from iN_yle (n := 3) (by omega) (by omega))]; rfl, F⟩
  | succ j ih =>
    intro k fuel z K hk hf F
    obtain ⟨fu, rfl⟩ : ∃ fu, fuel = fu + 1 := ⟨fuel - 1, by omega⟩
    have A1 := G.A.kr F.1.2.1 F.1.2.2.1 F.1.1
    obtain ⟨K1, c1, F1⟩ := f_Town_costByRule_eq (N := N) (rule := iN k) (F.shape G.S) G.I (F.tRel0 G.R (by omega)) (F.wRel W) (by omega) hN
    have F1 := F.trans F1
    have A2 := G.A.kr F1.1.2.1 F1.1.2.2.1 F1.1.1
    obtain ⟨K2, c2, F2⟩ := f_Town_costByRule_eq (N := N) (rule := z) (F1.shape G.S) G.I (F1.tRel0 G.R (by omega)) (F1.wRel W) (by omega) hN
    have F2 := F1.trans F2
    obtain ⟨L, l1, l2⟩ := ih (k + 1) fu (bsS (brM lw (r.2 1)) k z) K2 (by omega) (by omega) F2
    refine ⟨L, ?_, l2⟩
    rw [f_CT_begins_24, if_neg (show ¬ (3 : Int32) ≤ iN k from iN_nle (n := 3) (by omega) (by omega)), A1.gN, ob, (F.shape G.S).c0, ob, c1, ob]
    dsimp only
    rw [A2.gN, ob, (F1.shape G.S).c0, ob, c2, ob]
    dsimp only
    show _ = some ((.inl (lp (bsS (brM lw (r.2 1))) j (k + 1) (bsS (brM lw (r.2 1)) k z)) : Int32 ⊕ String), L)
    rw [← l1, iN_s]
    unfold bsS
    by_cases h : brM lw (r.2 1) z ≤ brM lw (r.2 1) (iN k)
    · rw [if_pos h, if_pos h]
    · rw [if_neg h, if_neg h]
theorem begins_md (I : Inv (r.2 1)) (K : RdOK N (r.2 1) lw) (hl : LwOK lw) (hN : 500 < N) : ∀ (j k fuel : Nat) (z : Int32) (q : Rho), k + j = 3 → j < fuel → Sr r q → ∃ s, f_R_begins__42 N a fuel z (iN k) q = some (lp (bsS (brM lw (r.2 1))) j k z, s) ∧ Sr r s := by
  intro j
  induction j with
  | zero =>
    intro k fuel z q hk hf F
    obtain ⟨fu, rfl⟩ : ∃ fu, fuel = fu + 1 := ⟨fuel - 1, by omega⟩
    exact ⟨q, by rw [f_R_begins__42, if_pos (show (3 : Int32) ≤ iN k from iN_yle (n := 3) (by omega) (by omega))]; rfl, F⟩
  | succ j ih =>
    intro k fuel z q hk hf F
    obtain ⟨fu, rfl⟩ : ∃ fu, fuel = fu + 1 := ⟨fuel - 1, by omega⟩
    have e1 : q.2 1 = r.2 1 := F.1.1.1
    obtain ⟨q1, m1, s1⟩ := f_R_byRule_eq (N := N) (r := q) (rule := iN k) (lw := lw) (by rw [e1]; exact I) (by rw [e1]; exact K) hl hN
    have s1 := F.trans s1
    have e2 : q1.2 1 = r.2 1 := s1.1.1.1
    obtain ⟨q2, m2, s2⟩ := f_R_byRule_eq (N := N) (r := q1) (rule := z) (lw := lw) (by rw [e2]; exact I) (by rw [e2]; exact K) hl hN
    have s2 := s1.trans s2
    obtain ⟨s, l1, l2⟩ := ih (k + 1) fu (bsS (brM lw (r.2 1)) k z) q2 (by omega) (by omega) s2
    refine ⟨s, ?_, l2⟩
    rw [f_R_begins__42, if_neg (show ¬ (3 : Int32) ≤ iN k from iN_nle (n := 3) (by omega) (by omega)), m1, ob]
    dsimp only
    rw [m2, ob]
    dsimp only
    rw [e1, e2]
    show _ = some (lp (bsS (brM lw (r.2 1))) j (k + 1) (bsS (brM lw (r.2 1)) k z), s)
    rw [← l1, iN_s]
    unfold bsS
    by_cases h : brM lw (r.2 1) z ≤ brM lw (r.2 1) (iN k)
    · rw [if_pos h, if_pos h]
    · rw [if_neg h, if_neg h]
theorem op_begins (G : GS N x o ps ys M r) (hN : 20000 ≤ N) : Both N x o (f_L_begins N x a o M) (f_R_begins_ N a r) := by
  obtain ⟨g1, g2, lw, g3, g4⟩ := G.nw
  have hl := g3.ok
  have I0 : Inv ((r_set r 0 0).2 1) := G.I
  have K0 : RdOK N ((r_set r 0 0).2 1) lw := g4
  have put : ∀ (K : Mem) (q : Rho), Fr 0 0 (x + 628) M K → Sr (r_set r 0 0) q → GS N x o ps ys K q := fun K q F s =>
    G.town F.none (F.tRel0 G.R (by omega)) G.I rfl rfl (fun _ _ => rfl) (by rw [setM_id]; exact (S0.thr r 0).trans s.s0)
  by_cases h1 : a < -1
  · refine both_ex (c := 1) (v := 0) (G.new.th 1) i1n (th0 r 1) ?_ ?_
    · unfold f_L_begins f_CT_begins f_CT_needNumber f_CT_needNumber_10
      rw [G.A.c, ob, if_pos h1, ob, sx_r, ob, sx_r, if_pos rfl]
    · unfold f_R_begins_ f_R_begins__15 f_R_isIn
      rw [if_pos h1, ob, if_pos rfl, th0, if_neg i10]
  by_cases h2 : 2 < a
  · refine both_ex (c := 1) (v := 0) (G.new.th 1) i1n (th0 r 1) ?_ ?_
    · unfold f_L_begins f_CT_begins f_CT_needNumber f_CT_needNumber_10
      rw [G.A.c, ob, if_neg h1, if_neg (Int32.not_le.mpr h2), ob, sx_r, ob, sx_r, if_pos rfl]
    · unfold f_R_begins_ f_R_begins__15 f_R_isIn
      rw [if_neg h1, if_pos h2, ob, if_pos rfl, th0, if_neg i10]
  have h3 : a ≤ 2 := Int32.not_lt.mp h2
  by_cases h0 : a = -1
  · obtain ⟨K, c1, F⟩ := begins_cl (N := N) (a := a) G g3 (by omega) 2 1 N 0 M (by decide) (by omega) Fr.refl
    obtain ⟨q, m1, s⟩ := begins_md (N := N) (a := a) (r := r_set r 0 0) I0 K0 hl (by omega) 2 1 N 0 _ (by decide) (by omega) (Sr.refl _)
    refine both_ok (v := lp (bsS (brM lw (r.2 1))) 2 1 0) (put K q F s) (s.1.2.1.trans (th0 r 0)) ?_ ?_
    · unfold f_L_begins f_CT_begins f_CT_needNumber
      rw [G.A.c, ob, if_neg h1, if_pos h3, ob, sx_l, if_pos h0, show f_CT_begins_24 N x a N 0 1 _ = _ from c1, ob, sx_l]
      rfl
    · unfold f_R_begins_ f_R_begins__15 f_R_isIn
      rw [if_neg h1, if_neg h2, ob, if_neg i1n, th0, if_pos i00, if_pos h0]
      exact m1
  · obtain ⟨K, c1, F⟩ := f_Town_costByRule_eq (N := N) (rule := a) G.S G.I G.R g3 (by omega) (by omega)
    obtain ⟨q, m1, s⟩ := f_R_byRule_eq (N := N) (r := r_set r 0 0) (rule := a) (lw := lw) I0 K0 hl (by omega)
    refine both_ok (v := brM lw (r.2 1) a) (put K q F s) (s.1.2.1.trans (th0 r 0)) ?_ ?_
    · unfold f_L_begins f_CT_begins f_CT_needNumber
      rw [G.A.c, ob, if_neg h1, if_pos h3, ob, sx_l, if_neg h0, G.A.gN, ob, G.S.c0, ob, c1, ob, ob, sx_l]
      rfl
    · unfold f_R_begins_ f_R_begins__15 f_R_isIn
      rw [if_neg h1, if_neg h2, ob, if_neg i1n, th0, if_pos i00, if_neg h0, m1, ob]
      rfl
end Bg
