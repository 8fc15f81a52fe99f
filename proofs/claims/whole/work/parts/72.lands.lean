/-! loops that go on: j turns from k on -/
def lp {σ : Type} (f : Nat → σ → σ) : Nat → Nat → σ → σ
  | 0, _, z => z
  | j + 1, k, z => lp f j (k + 1) (f k z)
theorem lp_congr {σ : Type} {f g : Nat → σ → σ} {n : Nat} (h : ∀ k z, k < n → f k z = g k z) : ∀ (j k : Nat) (z : σ), k + j ≤ n → lp f j k z = lp g j k z := by
  intro j
  induction j with
  | zero => intros; rfl
  | succ j ih =>
    intro k z hk
    show lp f j (k + 1) (f k z) = lp g j (k + 1) (g k z)
    rw [h k z (by omega), ih (k + 1) (g k z) (by omega)]
theorem lp_snoc {σ : Type} (f : Nat → σ → σ) : ∀ (j k : Nat) (z : σ), lp f (j + 1) k z = f (k + j) (lp f j k z) := by
  intro j
  induction j with
  | zero => intros; rfl
  | succ j ih =>
    intro k z
    show lp f (j + 1) (k + 1) (f k z) = f (k + (j + 1)) (lp f j (k + 1) (f k z))
    rw [ih (k + 1) (f k z), show k + 1 + j = k + (j + 1) by omega]
theorem rld1L {r : Rho} (k : Nat) (h : k < 1300) : rld r 1 (OfNat.ofNat k) = some (r.2 1 k) := rld1 h
/-! greetings and what it costs that two are unlike -/
def cntI (g : Int32) : Int32 := ((g >>> (1 &&& 31)) &&& 3) + 1
def absI (d : Int32) : Int32 := if 0 ≤ d then d else -d
def costP (s ai no x y : Int32) : Int32 :=
  if x >>> (3 &&& 31) = y >>> (3 &&& 31) then (if x >>> (3 &&& 31) = 2 then ai * absI (cntI x - cntI y) + (if x &&& 1 = y &&& 1 then 0 else no) else 0) else s
def costM (m : Nat → Int32) (x y : Int32) : Int32 := costP (m 13) (m 14) (m 15) x y
theorem f_R_costOf_eq (x y : Int32) (r : Rho) : f_R_costOf x y r = some (costM (r.2 1) x y) := by
  unfold f_R_costOf costM costP
  by_cases h1 : x >>> (3 &&& 31) = y >>> (3 &&& 31)
  · rw [if_pos h1, if_pos h1]
    by_cases h2 : x >>> (3 &&& 31) = 2
    · rw [if_pos h2, if_pos h2, rld1L 14 (by decide)]
      show (if 0 ≤ cntI x - cntI y then f_R_costOf_53 x y r (r.2 1 14) (cntI x - cntI y) else f_R_costOf_53 x y r (r.2 1 14) (-(cntI x - cntI y))) = _
      have h5 : ∀ a b : Int32, f_R_costOf_53 x y r a b = some (a * b + (if x &&& 1 = y &&& 1 then 0 else r.2 1 15)) := fun a b => by
        unfold f_R_costOf_53
        by_cases h3 : x &&& 1 = y &&& 1
        · rw [if_pos h3, if_pos h3]
          rfl
        · rw [if_neg h3, if_neg h3, rld1L 15 (by decide)]
          rfl
      unfold absI
      by_cases h4 : 0 ≤ cntI x - cntI y
      · rw [if_pos h4, if_pos h4, h5]
      · rw [if_neg h4, if_neg h4, h5]
    · rw [if_neg h2, if_neg h2]
  · rw [if_neg h1, if_neg h1, rld1L 13 (by decide)]
    rfl
theorem f_Manners_costOf_eq {M : Mem} {a : Nat} (hk : (m_kd M a).1 = 14) (x y : Int32) : f_Manners_costOf a x y M = some (costP (m_iv M a 0) (m_iv M a 1) (m_iv M a 2) x y) := by
  unfold f_Manners_costOf costP f_Manners_kindOf f_Manners_countOf f_Manners_sideOf
  show (if x >>> (3 &&& 31) = y >>> (3 &&& 31) then _ else _) = _
  by_cases h1 : x >>> (3 &&& 31) = y >>> (3 &&& 31)
  · rw [if_pos h1, if_pos h1]
    show (if x >>> (3 &&& 31) = 2 then _ else _) = _
    by_cases h2 : x >>> (3 &&& 31) = 2
    · rw [if_pos h2, if_pos h2]
      have h6 : f_Math_abs (cntI x - cntI y) = some (absI (cntI x - cntI y)) := by
        unfold f_Math_abs absI
        by_cases h4 : 0 ≤ cntI x - cntI y
        · rw [if_pos h4, if_pos h4]
        · rw [if_neg h4, if_neg h4]
      show (f_Math_abs (cntI x - cntI y)).bind _ = _
      rw [h6, gI_k (ci := 4) hk, gI_k (ci := 4) hk]
      show (if x &&& 1 = y &&& 1 then _ else _) = _
      by_cases h3 : x &&& 1 = y &&& 1
      · rw [if_pos h3, if_pos h3]
        rfl
      · rw [if_neg h3, if_neg h3]
        rfl
    · rw [if_neg h2, if_neg h2]
  · rw [if_neg h1, if_neg h1, gI_k (ci := 4) hk]
    rfl
/-- a loop from k to n: its end and its turn say all -/
theorem lp_run {σ α : Type} {F : Nat → Nat → σ → α} {f : Nat → σ → σ} {fin : σ → α} {n : Nat} (hend : ∀ fuel z, F (fuel + 1) n z = fin z) (hstep : ∀ fuel k z, k < n → F (fuel + 1) k z = F fuel (k + 1) (f k z)) :
    ∀ (j k : Nat) (z : σ) (fuel : Nat), k + j = n → j < fuel → F fuel k z = fin (lp f j k z) := by
  intro j
  induction j with
  | zero =>
    intro k z fuel hk hf
    obtain ⟨fu, rfl⟩ : ∃ fu, fuel = fu + 1 := ⟨fuel - 1, by omega⟩
    rw [show k = n by omega]
    exact hend fu z
  | succ j ih =>
    intro k z fuel hk hf
    obtain ⟨fu, rfl⟩ : ∃ fu, fuel = fu + 1 := ⟨fuel - 1, by omega⟩
    rw [hstep fu k z (by omega)]
    exact ih (k + 1) (f k z) fu (by omega) (by omega)
/-- .. where something holds all along -/
theorem lp_runP {σ α : Type} {F : Nat → Nat → σ → α} {f : Nat → σ → σ} {fin : σ → α} {n : Nat} {P : Nat → σ → Prop} (hend : ∀ fuel z, P n z → F (fuel + 1) n z = fin z) (hstep : ∀ fuel k z, k < n → P k z → F (fuel + 1) k z = F fuel (k + 1) (f k z) ∧ P (k + 1) (f k z)) :
    ∀ (j k : Nat) (z : σ) (fuel : Nat), k + j = n → j < fuel → P k z → F fuel k z = fin (lp f j k z) ∧ P n (lp f j k z) := by
  intro j
  induction j with
  | zero =>
    intro k z fuel hk hf hP
    obtain ⟨fu, rfl⟩ : ∃ fu, fuel = fu + 1 := ⟨fuel - 1, by omega⟩
    obtain rfl : k = n := by omega
    exact ⟨hend fu z hP, hP⟩
  | succ j ih =>
    intro k z fuel hk hf hP
    obtain ⟨fu, rfl⟩ : ∃ fu, fuel = fu + 1 := ⟨fuel - 1, by omega⟩
    obtain ⟨h1, h2⟩ := hstep fu k z (by omega) hP
    rw [h1]
    exact ih (k + 1) (f k z) fu (by omega) (by omega) h2
/-! weights -/
def wtS (m : Nat → Int32) (land g : Int32) (k : Nat) (z : Int32) : Int32 := if m (20 + 3 * k) = land ∧ (g = -1 ∨ m (21 + 3 * k) = g) then z + m (22 + 3 * k) else z
def wtM (m : Nat → Int32) (n : Nat) (land g : Int32) : Int32 := lp (wtS m land g) n 0 0
theorem ix3 (c k : Nat) : (OfNat.ofNat c : Int32) + 3 * iN k = iN (c + 3 * k) := by
  rw [iN_lit c, show (3 : Int32) = iN 3 from rfl, iN_mul, iN_add]
theorem ixa (a c : Nat) : iN a + (OfNat.ofNat c : Int32) = iN (a + c) := iN_add a c
theorem f_R_weight_eq {r : Rho} {n N : Nat} (hn : r.2 1 4 = iN n) (hb : n ≤ 24) (hN : 24 < N) (land g : Int32) : f_R_weight N land g r = some (wtM (r.2 1) n land g) := by
  unfold f_R_weight wtM
  refine lp_run (F := fun fuel k z => f_R_weight_5 N land g r fuel z (iN k)) (f := wtS (r.2 1) land g) (fin := fun z => some z) (n := n) (fun fuel z => ?_) (fun fuel k z hk => ?_) n 0 0 N (by omega) (by omega)
  · show f_R_weight_5 N land g r (fuel + 1) z (iN n) = some z
    rw [f_R_weight_5, rld1L 4 (by decide), hn]
    show (if iN n ≤ iN n then some z else _) = some z
    rw [if_pos (Int32.le_refl _)]
  · show f_R_weight_5 N land g r (fuel + 1) z (iN k) = f_R_weight_5 N land g r fuel (wtS (r.2 1) land g k z) (iN (k + 1))
    rw [f_R_weight_5, rld1L 4 (by decide), hn]
    show (if iN n ≤ iN k then some z else _) = _
    rw [if_neg (by rw [iN_le (by omega) (by omega)]; omega), ix3, rld1 (by omega)]
    show (if r.2 1 (20 + 3 * k) = land then _ else _) = _
    unfold f_R_weight_56 f_R_weight_73 f_R_weight_74 wtS
    rw [ix3, ixa, ixa, ixa, rld1 (by omega), rld1 (by omega), show 20 + 3 * k + 1 = 21 + 3 * k by omega, show 20 + 3 * k + 2 = 22 + 3 * k by omega]
    by_cases h1 : r.2 1 (20 + 3 * k) = land
    · rw [if_pos h1]
      by_cases h2 : g = -1
      · rw [if_pos h2, if_pos ⟨h1, Or.inl h2⟩]
        rfl
      · rw [if_neg h2]
        show (if r.2 1 (21 + 3 * k) = g then _ else _) = _
        by_cases h3 : r.2 1 (21 + 3 * k) = g
        · rw [if_pos h3, if_pos ⟨h1, Or.inr h3⟩]
          rfl
        · rw [if_neg h3, if_neg (fun q => q.2.elim h2 h3)]
          show f_R_weight_5 N land g r fuel (z + 0) (iN (k + 1)) = _
          rw [Int32.add_zero]
    · rw [if_neg h1, if_neg (fun q => h1 q.1)]
      show f_R_weight_5 N land g r fuel (z + 0) (iN (k + 1)) = _
      rw [Int32.add_zero]
/-- what lies in the lands -/
def LRel (M : Mem) (t : Nat) (m : Nat → Int32) (n : Nat) : Prop := m_iv M (t + 1) 1 = m 3 ∧ m_iv M (t + 1) 2 = m 4 ∧ (m_iv M (t + 2) 0 = m 13 ∧ m_iv M (t + 2) 1 = m 14 ∧ m_iv M (t + 2) 2 = m 15) ∧ ∀ k, k < n → m_iv M (t + 3) k = m (20 + 3 * k) ∧ m_iv M (t + 4) k = m (21 + 3 * k) ∧ m_iv M (t + 5) k = m (22 + 3 * k)
theorem f_Lands_weightOf_eq {M : Mem} {t n N : Nat} {m : Nat → Int32} (S : Shape M t) (R : LRel M t m n) (hn : m 4 = iN n) (hb : n ≤ 24) (hN : 24 < N) (land g : Int32) (hg : g ≠ -1) : f_Lands_weightOf N (t + 1) land g M = some (wtM m n land g) := by
  unfold f_Lands_weightOf wtM
  refine lp_run (F := fun fuel k z => f_Lands_weightOf_5 N (t + 1) land g M fuel z (iN k)) (f := wtS m land g) (fin := fun z => some z) (n := n) (fun fuel z => ?_) (fun fuel k z hk => ?_) n 0 0 N (by omega) (by omega)
  · show f_Lands_weightOf_5 N (t + 1) land g M (fuel + 1) z (iN n) = some z
    rw [f_Lands_weightOf_5, gI_k (ci := 0) S.k1, R.2.1, hn]
    show (if iN n ≤ iN n then some z else _) = some z
    rw [if_pos (Int32.le_refl _)]
  · show f_Lands_weightOf_5 N (t + 1) land g M (fuel + 1) z (iN k) = f_Lands_weightOf_5 N (t + 1) land g M fuel (wtS m land g k z) (iN (k + 1))
    obtain ⟨r1, r2, r3⟩ := R.2.2.2 k hk
    rw [f_Lands_weightOf_5, gI_k (ci := 0) S.k1, R.2.1, hn, S.g_hland, S.g_hgreet, S.g_hweight]
    show (if iN n ≤ iN k then some z else (if iN 24 ≤ iN k then some z else (ald M (t + 3) (iN k)).bind _)) = _
    rw [if_neg (by rw [iN_le (by omega) (by omega)]; omega), if_neg (by rw [iN_le (by omega) (by omega)]; omega), ald_iN S.k3 (by omega) (by decide), r1]
    show (if m (20 + 3 * k) = land then (ald M (t + 4) (iN k)).bind _ else _) = _
    rw [ald_iN S.k4 (by omega) (by decide), r2]
    unfold wtS
    by_cases h1 : m (20 + 3 * k) = land
    · rw [if_pos h1]
      show (if m (21 + 3 * k) = g then (ald M (t + 5) (iN k)).bind _ else _) = _
      rw [ald_iN S.k5 (by omega) (by decide), r3]
      by_cases h3 : m (21 + 3 * k) = g
      · rw [if_pos h3, if_pos ⟨h1, Or.inr h3⟩]
        rfl
      · rw [if_neg h3, if_neg (fun q => q.2.elim hg h3)]
        rfl
    · rw [if_neg h1, if_neg (fun q => h1 q.1)]
      rfl
