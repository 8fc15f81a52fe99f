/-! loops with what holds along them -/
theorem lp_inv {σ α : Type} {F : Nat → Nat → σ → α} {n : Nat} {P : Nat → σ → Prop} {Q : α → Prop} (hend : ∀ fuel z, P n z → Q (F (fuel + 1) n z)) (hstep : ∀ fuel k z, k < n → P k z → ∃ z', F (fuel + 1) k z = F fuel (k + 1) z' ∧ P (k + 1) z') :
    ∀ (j k : Nat) (z : σ) (fuel : Nat), k + j = n → j < fuel → P k z → Q (F fuel k z) := by
  intro j
  induction j with
  | zero =>
    intro k z fuel hk hf hP
    obtain ⟨fu, rfl⟩ : ∃ fu, fuel = fu + 1 := ⟨fuel - 1, by omega⟩
    obtain rfl : k = n := by omega
    exact hend fu z hP
  | succ j ih =>
    intro k z fuel hk hf hP
    obtain ⟨fu, rfl⟩ : ∃ fu, fuel = fu + 1 := ⟨fuel - 1, by omega⟩
    obtain ⟨z', h1, h2⟩ := hstep fu k z (by omega) hP
    rw [h1]
    exact ih (k + 1) z' fu (by omega) (by omega) h2
/-! how many -/
def ctB (f : Nat → Bool) : Nat → Nat
  | 0 => 0
  | n + 1 => ctB f n + (if f n = true then 1 else 0)
theorem ctB_s (f : Nat → Bool) (n : Nat) : ctB f (n + 1) = ctB f n + (if f n = true then 1 else 0) := rfl
theorem ctB_le (f : Nat → Bool) (n : Nat) : ctB f n ≤ n := by
  induction n with
  | zero => exact Nat.le_refl 0
  | succ n ih =>
    rw [ctB_s]
    by_cases h : f n = true
    · rw [if_pos h]; omega
    · rw [if_neg h]; omega
theorem ctB_pos (f : Nat → Bool) (n : Nat) : 0 < ctB f n ↔ ∃ k, k < n ∧ f k = true := by
  induction n with
  | zero => exact ⟨fun h => absurd h (Nat.lt_irrefl 0), fun ⟨k, h, _⟩ => absurd h (Nat.not_lt_zero k)⟩
  | succ n ih =>
    rw [ctB_s]
    by_cases h : f n = true
    · rw [if_pos h]
      exact ⟨fun _ => ⟨n, by omega, h⟩, fun _ => by omega⟩
    · rw [if_neg h, Nat.add_zero, ih]
      constructor
      · rintro ⟨k, h1, h2⟩; exact ⟨k, by omega, h2⟩
      · rintro ⟨k, h1, h2⟩
        refine ⟨k, ?_, h2⟩
        by_cases hk : k = n
        · rw [hk] at h2; exact absurd h2 h
        · omega
theorem ctB_congr {f g : Nat → Bool} {n : Nat} (h : ∀ k, k < n → f k = g k) : ctB f n = ctB g n := by
  induction n with
  | zero => rfl
  | succ n ih => rw [ctB_s, ctB_s, ih (fun k hk => h k (by omega)), h n (by omega)]
/-- how many around have g -/
def vtN (fr : Int32) (ow : Nat → Int32) (n : Nat) (g : Int32) : Nat := ctB (fun i => ib fr i && decide (ow i = g)) n
theorem vtN_le (fr : Int32) (ow : Nat → Int32) (n : Nat) (g : Int32) : vtN fr ow n g ≤ n := ctB_le _ n
theorem vtN_s (fr : Int32) (ow : Nat → Int32) (n : Nat) (g : Int32) : vtN fr ow (n + 1) g = vtN fr ow n g + (if ib fr n = true ∧ ow n = g then 1 else 0) := by
  unfold vtN
  rw [ctB_s]
  by_cases h : ib fr n = true ∧ ow n = g
  · rw [if_pos h, if_pos (by rw [h.1, h.2]; simp)]
  · rw [if_neg h, if_neg]
    intro q
    rw [Bool.and_eq_true, decide_eq_true_eq] at q
    exact h q
/-- what one takes: the most common one around; one's own if it is one of them, else the least -/
def tkM (fr : Int32) (ow : Nat → Int32) (n : Nat) (own : Int32) : Int32 := lp (fun g z => if vtN fr ow n (iN g) ≤ vtN fr ow n z then z else iN g) 32 0 own
def TkP (fr : Int32) (ow : Nat → Int32) (n : Nat) (own R : Int32) : Prop :=
  ∃ k, k < 32 ∧ R = iN k ∧ (∀ g, g < 32 → vtN fr ow n (iN g) ≤ vtN fr ow n R) ∧ (vtN fr ow n own = vtN fr ow n R → R = own) ∧ (vtN fr ow n own ≠ vtN fr ow n R → ∀ g, g < 32 → vtN fr ow n (iN g) = vtN fr ow n R → k ≤ g)
theorem TkP.uniq {fr : Int32} {ow : Nat → Int32} {n : Nat} {own R S : Int32} (h : TkP fr ow n own R) (k : TkP fr ow n own S) : R = S := by
  obtain ⟨a, a1, a2, a3, a4, a5⟩ := h
  obtain ⟨b, b1, b2, b3, b4, b5⟩ := k
  have e : vtN fr ow n R = vtN fr ow n S := by
    have h1 := b3 a a1
    have h2 := a3 b b1
    rw [← a2] at h1
    rw [← b2] at h2
    omega
  by_cases hq : vtN fr ow n own = vtN fr ow n R
  · rw [a4 hq, b4 (hq.trans e)]
  · have h1 := a5 hq b b1 (by rw [← b2]; exact e.symm)
    have h2 := b5 (fun q => hq (q.trans e.symm)) a a1 (by rw [← a2]; exact e)
    rw [a2, b2, show a = b by omega]
theorem tkM_P (fr : Int32) (ow : Nat → Int32) (n : Nat) {own : Int32} (ho : nx own 32) : TkP fr ow n own (tkM fr ow n own) := by
  have key : ∀ j, j ≤ 32 → ∃ k, k < 32 ∧ lp (fun g z => if vtN fr ow n (iN g) ≤ vtN fr ow n z then z else iN g) j 0 own = iN k ∧ (∀ g, g < j → vtN fr ow n (iN g) ≤ vtN fr ow n (iN k)) ∧ (vtN fr ow n own = vtN fr ow n (iN k) → iN k = own) ∧ vtN fr ow n own ≤ vtN fr ow n (iN k) ∧ (iN k = own ∨ k < j) ∧ (vtN fr ow n own ≠ vtN fr ow n (iN k) → ∀ g, g < j → vtN fr ow n (iN g) = vtN fr ow n (iN k) → k ≤ g) := by
    intro j
    induction j with
    | zero =>
      intro _
      obtain ⟨k, h1, h2⟩ := ho
      refine ⟨k, h1, h2, fun g hg => absurd hg (Nat.not_lt_zero g), fun _ => h2.symm, by rw [h2]; exact Nat.le_refl _, Or.inl h2.symm, fun _ g hg => absurd hg (Nat.not_lt_zero g)⟩
    | succ j ih =>
      intro hj
      obtain ⟨k, h1, h2, h3, h4, h5, h6, h7⟩ := ih (by omega)
      rw [lp_snoc, h2, Nat.zero_add]
      by_cases hv : vtN fr ow n (iN j) ≤ vtN fr ow n (iN k)
      · rw [if_pos hv]
        refine ⟨k, h1, rfl, fun g hg => ?_, h4, h5, h6.imp id fun q => by omega, fun hq g hg he => ?_⟩
        · by_cases hgj : g = j
          · rw [hgj]; exact hv
          · exact h3 g (by omega)
        · by_cases hgj : g = j
          · rcases h6 with h6 | h6
            · rw [h6] at hq; exact absurd rfl hq
            · omega
          · exact h7 hq g (by omega) he
      · rw [if_neg hv]
        refine ⟨j, by omega, rfl, fun g hg => ?_, fun hq => by omega, by omega, Or.inr (by omega), fun _ g hg he => ?_⟩
        · by_cases hgj : g = j
          · rw [hgj]; exact Nat.le_refl _
          · have := h3 g (by omega)
            omega
        · by_cases hgj : g = j
          · omega
          · have := h3 g (by omega)
            omega
  obtain ⟨k, h1, h2, h3, h4, h5, h6, h7⟩ := key 32 (Nat.le_refl _)
  have h2 : tkM fr ow n own = iN k := h2
  rw [h2]
  exact ⟨k, h1, rfl, h3, h4, h7⟩
theorem vtN_congr {fr : Int32} {ow ov : Nat → Int32} {n : Nat} (h : ∀ k, k < n → ow k = ov k) (g : Int32) : vtN fr ow n g = vtN fr ov n g := by
  unfold vtN
  exact ctB_congr fun k hk => by rw [h k hk]
theorem tkM_congr {fr : Int32} {ow ov : Nat → Int32} {n : Nat} (h : ∀ k, k < n → ow k = ov k) (own : Int32) : tkM fr ow n own = tkM fr ov n own := by
  unfold tkM
  rw [show (fun (g : Nat) (z : Int32) => if vtN fr ow n (iN g) ≤ vtN fr ow n z then z else iN g) = fun (g : Nat) (z : Int32) => if vtN fr ov n (iN g) ≤ vtN fr ov n z then z else iN g from funext fun g => funext fun z => by rw [vtN_congr h, vtN_congr h]]
/-- a year -/
def yrM (fr : Nat → Int32) (n : Nat) (ow : Nat → Int32) : Nat → Int32 := fun p => if p < n then tkM (fr p) ow n (ow p) else 0
theorem yrM_congr {fr ow ov : Nat → Int32} {n : Nat} (h : ∀ k, k < n → ow k = ov k) : yrM fr n ow = yrM fr n ov := by
  funext p
  unfold yrM
  by_cases hp : p < n
  · rw [if_pos hp, if_pos hp, tkM_congr h, h p hp]
  · rw [if_neg hp, if_neg hp]
theorem yrM_nx {fr ow : Nat → Int32} {n : Nat} (h : ∀ k, k < n → nx (ow k) 32) {p : Nat} (hp : p < n) : nx (yrM fr n ow p) 32 := by
  unfold yrM
  rw [if_pos hp]
  obtain ⟨k, h1, h2, -⟩ := tkM_P (fr p) ow n (h p hp)
  exact ⟨k, h1, h2⟩
def itM (fr : Nat → Int32) (n : Nat) (ow : Nat → Int32) : Nat → (Nat → Int32)
  | 0 => ow
  | k + 1 => yrM fr n (itM fr n ow k)
theorem itM_nx {fr ow : Nat → Int32} {n : Nat} (h : ∀ k, k < n → nx (ow k) 32) : ∀ (j p : Nat), p < n → nx (itM fr n ow j p) 32 := by
  intro j
  induction j with
  | zero => exact h
  | succ j ih => exact fun p hp => yrM_nx ih hp
/-- nothing beyond n -/
def canN (n : Nat) (f : Nat → Int32) : Prop := ∀ p, n ≤ p → f p = 0
theorem can_eq {n : Nat} {f g : Nat → Int32} (hf : canN n f) (hg : canN n g) (h : ∀ k, k < n → f k = g k) : f = g := by
  funext p
  by_cases hp : p < n
  · exact h p hp
  · rw [hf p (by omega), hg p (by omega)]
theorem yrM_can (fr : Nat → Int32) (n : Nat) (ow : Nat → Int32) : canN n (yrM fr n ow) := fun p hp => if_neg (by omega)
theorem itM_can {fr ow : Nat → Int32} {n : Nat} (h : canN n ow) : ∀ j, canN n (itM fr n ow j) := by
  intro j
  cases j with
  | zero => exact h
  | succ j => exact yrM_can _ _ _
theorem itM_fix {fr ow : Nat → Int32} {n k : Nat} (h : itM fr n ow (k + 1) = itM fr n ow k) : ∀ j, itM fr n ow (k + j) = itM fr n ow k := by
  intro j
  induction j with
  | zero => rfl
  | succ j ih =>
    show yrM fr n (itM fr n ow (k + j)) = _
    rw [ih]
    exact h
theorem itM_two {fr ow : Nat → Int32} {n k : Nat} (h : itM fr n ow (k + 2) = itM fr n ow k) : ∀ j, itM fr n ow (k + 2 * j) = itM fr n ow k ∧ itM fr n ow (k + 1 + 2 * j) = itM fr n ow (k + 1) := by
  intro j
  induction j with
  | zero => exact ⟨rfl, rfl⟩
  | succ j ih =>
    have h1 : itM fr n ow (k + 2 * (j + 1)) = itM fr n ow k := by
      show yrM fr n (yrM fr n (itM fr n ow (k + 2 * j))) = _
      rw [ih.1]
      exact h
    refine ⟨h1, ?_⟩
    rw [show k + 1 + 2 * (j + 1) = (k + 2 * (j + 1)) + 1 by omega]
    show yrM fr n (itM fr n ow (k + 2 * (j + 1))) = _
    rw [h1]
    rfl
/-- somebody changes -/
def chB (fr : Nat → Int32) (n : Nat) (ow : Nat → Int32) : Bool := anyB (fun p => decide (yrM fr n ow p ≠ ow p)) n
theorem chB_f {fr ow : Nat → Int32} {n : Nat} (hc : canN n ow) (h : chB fr n ow = false) : yrM fr n ow = ow := by
  refine can_eq (yrM_can _ _ _) hc fun k hk => Classical.byContradiction fun hq => ?_
  have h1 : chB fr n ow = true := (anyB_iff _ _).mpr ⟨k, hk, decide_eq_true hq⟩
  rw [h] at h1
  cases h1
