section Pa
variable {N x o t B n p k w i s : Nat} {ps ys zs : Nat → Nat} {M K L : Mem} {r q : Rho} {a b g u v S T : Int32} {m m2 m0 : Nat → Int32}
theorem srB_at (c : Nat → Bool) : ∀ f j, srB c f j < j + f → c (srB c f j) = true := by
  intro f
  induction f with
  | zero => intro j h; exact absurd h (Nat.lt_irrefl j)
  | succ f ih =>
    intro j
    show (if c j = true then j else srB c f (j + 1)) < j + (f + 1) → c (if c j = true then j else srB c f (j + 1)) = true
    by_cases h : c j = true
    · rw [if_pos h]; exact fun _ => h
    · rw [if_neg h]
      exact fun h2 => ih (j + 1) (by omega)
theorem srB_lo (c : Nat → Bool) : ∀ f j i, j ≤ i → i < srB c f j → c i = false := by
  intro f
  induction f with
  | zero => intro j i h1 h2; exact absurd h2 (Nat.not_lt.mpr h1)
  | succ f ih =>
    intro j i h1
    show i < (if c j = true then j else srB c f (j + 1)) → _
    by_cases h : c j = true
    · rw [if_pos h]; exact fun h2 => absurd h2 (Nat.not_lt.mpr h1)
    · rw [if_neg h]
      intro h2
      by_cases hij : i = j
      · rw [hij]; exact Bool.eq_false_iff.mpr h
      · exact ih (j + 1) i (by omega) h2
theorem srB_ex (c : Nat → Bool) {f j i : Nat} (h1 : j ≤ i) (h2 : i < j + f) (h : c i = true) : srB c f j ≤ i := by
  refine Nat.le_of_not_lt fun hlt => ?_
  have := srB_lo c f j i h1 hlt
  rw [h] at this
  cases this
/-- a set without one -/
def rmB (S : Int32) (i : Nat) : Int32 := S &&& (((1 : Int32) <<< (iN i &&& 31)) ^^^ (-1))
theorem ib_rm (S : Int32) {i j : Nat} (hi : i < 32) (hj : j < 32) : ib (rmB S i) j = (ib S j && !decide (j = i)) := by
  unfold rmB
  rw [ib_and, ib_not _ hj, ib_shl hi]
theorem ct_rm (hi : i < 32) (h : ib S i = true) : ctB (ib (rmB S i)) 32 + 1 = ctB (ib S) 32 := by
  have e : S = rmB S i ||| ((1 : Int32) <<< (iN i &&& 31)) := ib_ext fun j hj => by
    rw [ib_or, ib_rm S hi hj, ib_shl hi]
    by_cases hij : j = i
    · rw [hij, h]; simp
    · rw [decide_eq_false hij]; simp
  have h2 : ib (rmB S i) i = false := by
    rw [ib_rm S hi hi]; simp
  have h3 := ct_or (rmB S i) hi
  rw [← e, h2, if_neg (by decide)] at h3
  exact h3.symm
theorem ct_0 (h : ctB (ib S) 32 = 0) : S = 0 := ib_ext fun j hj => by
  rw [ib_0]
  refine Bool.eq_false_iff.mpr fun h2 => ?_
  have := (ctB_pos (ib S) 32).mpr ⟨j, hj, h2⟩
  omega
theorem ct_mono {f g : Nat → Bool} : ∀ n, (∀ k, k < n → f k = true → g k = true) → ctB f n ≤ ctB g n := by
  intro n
  induction n with
  | zero => intro _; exact Nat.le_refl _
  | succ n ih =>
    intro h
    have h1 := ih fun k hk => h k (by omega)
    rw [ctB_s, ctB_s]
    by_cases h2 : f n = true
    · rw [if_pos h2, if_pos (h n (by omega) h2)]; omega
    · rw [if_neg h2]
      omega
/-- the least one -/
def loB (S : Int32) : Nat := srB (ib S) 32 0
theorem loB_p (h : S ≠ 0) : loB S < 32 ∧ ib S (loB S) = true ∧ ∀ j, j < loB S → ib S j = false := by
  have h1 : loB S < 0 + 32 := by
    refine Nat.lt_of_not_le fun h2 => h (ib_ext fun j hj => ?_)
    rw [ib_0]
    exact srB_lo (ib S) 32 0 j (Nat.zero_le _) (by unfold loB at h2; omega)
  exact ⟨by omega, srB_at (ib S) 32 0 h1, fun j hj => srB_lo (ib S) 32 0 j (Nat.zero_le _) hj⟩
theorem loB_u (hp : p < 32) (h1 : ib S p = true) (h2 : ∀ j, j < p → ib S j = false) : loB S = p := by
  have h3 : loB S ≤ p := srB_ex (ib S) (Nat.zero_le _) (by omega) h1
  refine Nat.le_antisymm h3 (Nat.le_of_not_lt fun h => ?_)
  have h4 := srB_at (ib S) 32 0 (show srB (ib S) 32 0 < 0 + 32 by unfold loB at h3; omega)
  have h5 := h2 _ h
  unfold loB at h5
  rw [h5] at h4
  cases h4
def mxS (m : Nat → Int32) (f : Int32 → Nat) (p : Nat) (R : Int32) (i z : Nat) : Nat := if ib R i = true ∧ tdB m p i = true then (if z < 1 + f (rmB R i) then 1 + f (rmB R i) else z) else z
/-- how many pairs at most -/
def mpF (m : Nat → Int32) : Nat → Int32 → Nat
  | 0, _ => 0
  | d + 1, S => if S = 0 then 0 else lp (fun i z => if ib (rmB S (loB S)) i = true ∧ tdB m (loB S) i = true then (if z < 1 + mpF m d (rmB (rmB S (loB S)) i) then 1 + mpF m d (rmB (rmB S (loB S)) i) else z) else z) (cn m 5) 0 (mpF m d (rmB S (loB S)))
theorem mpF_s (m : Nat → Int32) (d : Nat) (S : Int32) : mpF m (d + 1) S = if S = 0 then 0 else lp (mxS m (mpF m d) (loB S) (rmB S (loB S))) (cn m 5) 0 (mpF m d (rmB S (loB S))) := rfl
theorem mpF_0 (m : Nat → Int32) (d : Nat) : mpF m d 0 = 0 := by
  cases d with
  | zero => rfl
  | succ d => rw [mpF_s, if_pos rfl]
theorem lp_pres {σ : Type} {f : Nat → σ → σ} {P : σ → Prop} (h : ∀ k z, P z → P (f k z)) : ∀ (j k : Nat) (z : σ), P z → P (lp f j k z) := by
  intro j
  induction j with
  | zero => intro _ _ hz; exact hz
  | succ j ih => intro k z hz; exact ih (k + 1) (f k z) (h k z hz)
theorem lp_split {σ : Type} (f : Nat → σ → σ) (b : Nat) : ∀ (a k : Nat) (z : σ), lp f (a + b) k z = lp f b (k + a) (lp f a k z) := by
  intro a
  induction a with
  | zero => intro k z; rw [Nat.zero_add, Nat.add_zero]; rfl
  | succ a ih =>
    intro k z
    rw [show a + 1 + b = (a + b) + 1 by omega]
    show lp f (a + b) (k + 1) (f k z) = lp f b (k + (a + 1)) (lp f a (k + 1) (f k z))
    rw [ih, show k + 1 + a = k + (a + 1) by omega]
theorem lp_idle {σ : Type} {f : Nat → σ → σ} : ∀ (j k : Nat) (z : σ), (∀ i, k ≤ i → i < k + j → f i z = z) → lp f j k z = z := by
  intro j
  induction j with
  | zero => intros; rfl
  | succ j ih =>
    intro k z h
    show lp f j (k + 1) (f k z) = z
    rw [h k (Nat.le_refl _) (by omega)]
    exact ih (k + 1) z fun i h1 h2 => h i (by omega) (by omega)
theorem mpF_le (m : Nat → Int32) : ∀ (d : Nat) (S : Int32), mpF m d S ≤ d := by
  intro d
  induction d with
  | zero => intro S; exact Nat.le_refl _
  | succ d ih =>
    intro S
    rw [mpF_s]
    by_cases h : S = 0
    · rw [if_pos h]; exact Nat.zero_le _
    · rw [if_neg h]
      refine lp_pres (P := fun z => z ≤ d + 1) (fun i z hz => ?_) _ _ _ (Nat.le_succ_of_le (ih _))
      unfold mxS
      have := ih (rmB (rmB S (loB S)) i)
      by_cases h1 : ib (rmB S (loB S)) i = true ∧ tdB m (loB S) i = true
      · rw [if_pos h1]
        by_cases h2 : z < 1 + mpF m d (rmB (rmB S (loB S)) i)
        · rw [if_pos h2]; omega
        · rw [if_neg h2]; exact hz
      · rw [if_neg h1]; exact hz
theorem ib_lt (h : ib S i = true) : i < 32 := by
  refine Nat.lt_of_not_le fun h2 => ?_
  rw [ib_big S h2] at h
  cases h
theorem mxS_congr {f g : Int32 → Nat} {R : Int32} (h : ∀ i, ib R i = true → tdB m p i = true → f (rmB R i) = g (rmB R i)) (i z : Nat) : mxS m f p R i z = mxS m g p R i z := by
  unfold mxS
  by_cases h1 : ib R i = true ∧ tdB m p i = true
  · rw [if_pos h1, if_pos h1, h i h1.1 h1.2]
  · rw [if_neg h1, if_neg h1]
/-- more room changes nothing -/
theorem mpF_st (m : Nat → Int32) : ∀ (d e : Nat) (S : Int32), ctB (ib S) 32 ≤ d → ctB (ib S) 32 ≤ e → mpF m d S = mpF m e S := by
  intro d
  induction d with
  | zero =>
    intro e S h1 _
    rw [ct_0 (Nat.le_zero.mp h1), mpF_0, mpF_0]
  | succ d ih =>
    intro e S h1 h2
    cases e with
    | zero => rw [ct_0 (Nat.le_zero.mp h2), mpF_0, mpF_0]
    | succ e =>
      rw [mpF_s, mpF_s]
      by_cases h : S = 0
      · rw [if_pos h, if_pos h]
      · rw [if_neg h, if_neg h]
        obtain ⟨l1, l2, -⟩ := loB_p h
        have hc := ct_rm l1 l2
        rw [ih e (rmB S (loB S)) (by omega) (by omega)]
        refine lp_congr (n := cn m 5) (fun i z _ => mxS_congr (fun i hi _ => ?_) i z) _ _ _ (by omega)
        have hc2 := ct_rm (ib_lt hi) hi
        exact ih e _ (by omega) (by omega)
/-- those who are tied to nobody don't matter -/
theorem mpF_T (hT : ∀ p i, p < 32 → i < 32 → tdB m p i = true → ib T p = true ∧ ib T i = true) : ∀ (d : Nat) (S : Int32), ctB (ib S) 32 ≤ d → mpF m d S = mpF m d (S &&& T) := by
  intro d
  induction d with
  | zero =>
    intro S h1
    rw [ct_0 (Nat.le_zero.mp h1), Int32.zero_and]
  | succ d ih =>
    intro S h1
    by_cases h : S = 0
    · rw [h, Int32.zero_and]
    · obtain ⟨l1, l2, l3⟩ := loB_p h
      have hc := ct_rm l1 l2
      have eR := ih (rmB S (loB S)) (by omega)
      have cT : ∀ R : Int32, ctB (ib (R &&& T)) 32 ≤ ctB (ib R) 32 := fun R => ct_mono 32 fun k _ h => by
        rw [ib_and, Bool.and_eq_true] at h
        exact h.1
      have rT : ∀ (R : Int32) (i : Nat), rmB (R &&& T) i = rmB R i &&& T := fun R i => by
        unfold rmB
        rw [Int32.and_assoc, Int32.and_comm T, ← Int32.and_assoc]
      rw [mpF_s, if_neg h]
      by_cases hp : ib T (loB S) = true
      · have h2 : ib (S &&& T) (loB S) = true := by rw [ib_and, l2, hp]; rfl
        have hne : S &&& T ≠ 0 := fun q => by
          rw [q, ib_0] at h2
          cases h2
        have hl : loB (S &&& T) = loB S := loB_u l1 h2 fun j hj => by rw [ib_and, l3 j hj, Bool.false_and]
        rw [mpF_s, if_neg hne, hl, rT, eR]
        refine lp_congr (n := cn m 5) (fun i z _ => ?_) _ _ _ (by omega)
        unfold mxS
        by_cases h3 : ib (rmB S (loB S)) i = true ∧ tdB m (loB S) i = true
        · have h4 : ib (rmB S (loB S) &&& T) i = true ∧ tdB m (loB S) i = true := ⟨by rw [ib_and, h3.1, (hT _ _ l1 (ib_lt h3.1) h3.2).2]; rfl, h3.2⟩
          have hc2 := ct_rm (ib_lt h3.1) h3.1
          rw [if_pos h3, if_pos h4, ih (rmB (rmB S (loB S)) i) (by omega), rT]
        · have h4 : ¬ (ib (rmB S (loB S) &&& T) i = true ∧ tdB m (loB S) i = true) := fun q => by
            rw [ib_and, Bool.and_eq_true] at q
            exact h3 ⟨q.1.1, q.2⟩
          rw [if_neg h3, if_neg h4]
      · have hx : S &&& T = rmB S (loB S) &&& T := ib_ext fun j hj => by
          rw [ib_and, ib_and, ib_rm S l1 hj]
          by_cases hj2 : j = loB S
          · rw [hj2, Bool.eq_false_iff.mpr hp, Bool.and_false, Bool.and_false]
          · rw [decide_eq_false hj2]; simp
        rw [lp_idle _ _ _ (fun i _ _ => ?_), eR, hx]
        · refine mpF_st m d (d + 1) _ ?_ ?_
          · exact Nat.le_trans (cT _) (by omega)
          · exact Nat.le_trans (cT _) (by omega)
        · unfold mxS
          rw [if_neg]
          exact fun q => hp (hT _ _ l1 (ib_lt q.1) q.2).1
end Pa
