section Ch
variable {N x o t B n p k w : Nat} {ps ys zs : Nat → Nat} {M K L : Mem} {r q : Rho} {a b g : Int32} {m m2 m0 : Nat → Int32}
/-- the first one from j on with c -/
def srB (c : Nat → Bool) : Nat → Nat → Nat
  | 0, j => j
  | f + 1, j => if c j = true then j else srB c f (j + 1)
theorem srB_ge (c : Nat → Bool) : ∀ f j, j ≤ srB c f j ∧ srB c f j ≤ j + f := by
  intro f
  induction f with
  | zero => intro j; exact ⟨Nat.le_refl _, Nat.le_refl _⟩
  | succ f ih =>
    intro j
    show j ≤ (if c j = true then j else srB c f (j + 1)) ∧ (if c j = true then j else srB c f (j + 1)) ≤ j + (f + 1)
    by_cases h : c j = true
    · rw [if_pos h]; omega
    · rw [if_neg h]
      have := ih (j + 1)
      omega
/-- the time before that the same two met -/
def bfN (m : Nat → Int32) (n k : Nat) : Nat := srB (fun j => decide (lgc m j 1 = lgc m k 1 ∧ lgc m j 2 = lgc m k 2)) (n - (k + 1)) (k + 1)
def chC (m : Nat → Int32) (n c k : Nat) : Bool := decide (bfN m n k < n ∧ lgc m k c ≠ lgc m (bfN m n k) c)
theorem bfN_b (hk : k < n) : k < bfN m n k ∧ bfN m n k ≤ n := by
  have h := srB_ge (fun j => decide (lgc m j 1 = lgc m k 1 ∧ lgc m j 2 = lgc m k 2)) (n - (k + 1)) (k + 1)
  unfold bfN
  omega
theorem timeBefore_cl (G : GS N x o ps ys M r) (hN : 100 < N) (hk : k < cn (r.2 1) 12) : f_Log_timeBefore N (x + 2 + 9) (iN k) M = some (if bfN (r.2 1) (cn (r.2 1) 12) k < cn (r.2 1) 12 then iN (bfN (r.2 1) (cn (r.2 1) 12) k) else -1) := by
  have h12 := G.I.b12
  have key : ∀ (f j fuel : Nat), j + f = cn (r.2 1) 12 → f < fuel → f_Log_timeBefore_4 N (x + 2 + 9) (iN k) M fuel (iN j) = some (if srB (fun j => decide (lgc (r.2 1) j 1 = lgc (r.2 1) k 1 ∧ lgc (r.2 1) j 2 = lgc (r.2 1) k 2)) f j < cn (r.2 1) 12 then iN (srB (fun j => decide (lgc (r.2 1) j 1 = lgc (r.2 1) k 1 ∧ lgc (r.2 1) j 2 = lgc (r.2 1) k 2)) f j) else -1) := by
    intro f
    induction f with
    | zero =>
      intro j fuel hj hf
      obtain ⟨fu, rfl⟩ : ∃ fu, fuel = fu + 1 := ⟨fuel - 1, by omega⟩
      rw [f_Log_timeBefore_4, G.S.i9, ob, G.R.G.1, G.I.n12, if_pos (iN_yle (by omega) (by omega))]
      show _ = some (if j < cn (r.2 1) 12 then iN j else -1)
      rw [if_neg (by omega)]
    | succ f ih =>
      intro j fuel hj hf
      obtain ⟨fu, rfl⟩ : ∃ fu, fuel = fu + 1 := ⟨fuel - 1, by omega⟩
      have hjn : j < cn (r.2 1) 12 := by omega
      have c1 : ∀ i, i < cn (r.2 1) 12 → f_Log_cellOf (x + 2 + 9) (iN i) 1 M = some (lgc (r.2 1) i 1) := fun i hi => f_Log_cellOf_eq G (c := 1) hi (by decide)
      have c2 : ∀ i, i < cn (r.2 1) 12 → f_Log_cellOf (x + 2 + 9) (iN i) 2 M = some (lgc (r.2 1) i 2) := fun i hi => f_Log_cellOf_eq G (c := 2) hi (by decide)
      rw [f_Log_timeBefore_4, G.S.i9, ob, G.R.G.1, G.I.n12, if_neg (iN_nle hjn (by omega)), G.S.c9, ob, c1 j hjn, ob, ob, c1 k hk, ob, iN_s]
      show _ = some (if (if decide (lgc (r.2 1) j 1 = lgc (r.2 1) k 1 ∧ lgc (r.2 1) j 2 = lgc (r.2 1) k 2) = true then j else srB (fun j => decide (lgc (r.2 1) j 1 = lgc (r.2 1) k 1 ∧ lgc (r.2 1) j 2 = lgc (r.2 1) k 2)) f (j + 1)) < cn (r.2 1) 12 then iN (if decide (lgc (r.2 1) j 1 = lgc (r.2 1) k 1 ∧ lgc (r.2 1) j 2 = lgc (r.2 1) k 2) = true then j else srB (fun j => decide (lgc (r.2 1) j 1 = lgc (r.2 1) k 1 ∧ lgc (r.2 1) j 2 = lgc (r.2 1) k 2)) f (j + 1)) else -1)
      by_cases h1 : lgc (r.2 1) j 1 = lgc (r.2 1) k 1
      · rw [if_pos h1, ob, c2 j hjn, ob, ob, c2 k hk, ob]
        by_cases h2 : lgc (r.2 1) j 2 = lgc (r.2 1) k 2
        · rw [if_pos h2, if_pos (decide_eq_true (And.intro h1 h2)), if_pos hjn]
        · have hd : ¬ decide (lgc (r.2 1) j 1 = lgc (r.2 1) k 1 ∧ lgc (r.2 1) j 2 = lgc (r.2 1) k 2) = true := by
            rw [decide_eq_true_eq]
            exact fun q => h2 q.2
          rw [if_neg h2, if_neg hd]
          exact ih (j + 1) fu (by omega) (by omega)
      · have hd : ¬ decide (lgc (r.2 1) j 1 = lgc (r.2 1) k 1 ∧ lgc (r.2 1) j 2 = lgc (r.2 1) k 2) = true := by
          rw [decide_eq_true_eq]
          exact fun q => h1 q.1
        rw [if_neg h1, if_neg hd]
        exact ih (j + 1) fu (by omega) (by omega)
  unfold f_Log_timeBefore
  rw [iN_s]
  exact key (cn (r.2 1) 12 - (k + 1)) (k + 1) N (by omega) (by omega)
theorem unlike_cl (G : GS N x o ps ys M r) (hk : k < cn (r.2 1) 12) {c : Nat} (hc : c < 8) : f_Log_beganUnlike (x + 2 + 9) (iN k) (if bfN (r.2 1) (cn (r.2 1) 12) k < cn (r.2 1) 12 then iN (bfN (r.2 1) (cn (r.2 1) 12) k) else -1) (iN c) M = some (b01 (chC (r.2 1) (cn (r.2 1) 12) c k)) := by
  have h12 := G.I.b12
  unfold f_Log_beganUnlike chC
  by_cases h : bfN (r.2 1) (cn (r.2 1) 12) k < cn (r.2 1) 12
  · rw [if_pos h, if_neg (iN_m1 (by omega)), G.S.c9, ob, f_Log_cellOf_eq G hk hc, ob, ob, f_Log_cellOf_eq G h hc, ob]
    by_cases h2 : lgc (r.2 1) k c = lgc (r.2 1) (bfN (r.2 1) (cn (r.2 1) 12) k) c
    · rw [if_pos h2, decide_eq_false (fun q => q.2 h2)]; rfl
    · rw [if_neg h2, decide_eq_true (And.intro h h2)]; rfl
  · rw [if_neg h, if_pos rfl, decide_eq_false (fun q => h q.1)]; rfl
/-- the set and how often, of the rows that are seen -/
def chS (m : Nat → Int32) (n : Nat) (z : Int32) (D : Nat → Prop) : Prop := ∀ i, i < 32 → (ib z i = true ↔ ∃ j, j < n ∧ D j ∧ ((chC m n 3 j = true ∧ lgc m j 1 = iN i) ∨ (chC m n 4 j = true ∧ lgc m j 2 = iN i)))
theorem Inv.lg (I : Inv m) (hk : k < cn m 12) : ∃ a b, a < b ∧ b < 10 ∧ lgc m k 1 = iN a ∧ lgc m k 2 = iN b := (I.2.2.2.1.2 k hk).1
theorem changed_cl (G : GS N x o ps ys M r) (hN : 100 < N) (a : Int32) : ∃ z, chS (r.2 1) (cn (r.2 1) 12) z (fun _ => True) ∧ f_CT_changed N x a M = some (if a = 0 then z else iN (ctB (chC (r.2 1) (cn (r.2 1) 12) 3) (cn (r.2 1) 12) + ctB (chC (r.2 1) (cn (r.2 1) 12) 4) (cn (r.2 1) 12))) := by
  have h12 := G.I.b12
  unfold f_CT_changed
  refine lp_inv (F := fun fuel k (z : Int32 × Int32) => f_CT_changed_7 N x a M fuel z.1 z.2 (iN k)) (n := cn (r.2 1) 12) (P := fun k z => chS (r.2 1) (cn (r.2 1) 12) z.1 (fun j => j < k) ∧ z.2 = iN (ctB (chC (r.2 1) (cn (r.2 1) 12) 3) k + ctB (chC (r.2 1) (cn (r.2 1) 12) 4) k)) (Q := fun t => ∃ z, chS (r.2 1) (cn (r.2 1) 12) z (fun _ => True) ∧ t = some (if a = 0 then z else iN (ctB (chC (r.2 1) (cn (r.2 1) 12) 3) (cn (r.2 1) 12) + ctB (chC (r.2 1) (cn (r.2 1) 12) 4) (cn (r.2 1) 12)))) (fun fuel z hz => ?_) (fun fuel k z hk hz => ?_) (cn (r.2 1) 12) 0 (0, 0) N (by omega) (by omega) ⟨fun i hi => ⟨fun h => (by rw [ib_0] at h; exact Bool.noConfusion h), fun ⟨j, _, h, _⟩ => absurd h (Nat.not_lt_zero j)⟩, rfl⟩
  · obtain ⟨h1, h2⟩ := hz
    refine ⟨z.1, fun i hi => (h1 i hi).trans ⟨fun ⟨j, q1, _, q3⟩ => ⟨j, q1, trivial, q3⟩, fun ⟨j, q1, _, q3⟩ => ⟨j, q1, q1, q3⟩⟩, ?_⟩
    show f_CT_changed_7 N x a M (fuel + 1) z.1 z.2 (iN (cn (r.2 1) 12)) = _
    rw [f_CT_changed_7, G.A.gN, ob, G.S.g_log, ob, G.S.i9, ob, G.R.G.1, G.I.n12, if_pos (i_le_rfl _), h2]
    by_cases h : a = 0
    · rw [if_pos h, if_pos h]
    · rw [if_neg h, if_neg h]
  · obtain ⟨h1, h2⟩ := hz
    obtain ⟨p, s, hps, hs, e1, e2⟩ := G.I.lg hk
    have u3 : f_Log_beganUnlike (x + 2 + 9) (iN k) (if bfN (r.2 1) (cn (r.2 1) 12) k < cn (r.2 1) 12 then iN (bfN (r.2 1) (cn (r.2 1) 12) k) else -1) 3 M = some (b01 (chC (r.2 1) (cn (r.2 1) 12) 3 k)) := unlike_cl G hk (c := 3) (by decide)
    have u4 : f_Log_beganUnlike (x + 2 + 9) (iN k) (if bfN (r.2 1) (cn (r.2 1) 12) k < cn (r.2 1) 12 then iN (bfN (r.2 1) (cn (r.2 1) 12) k) else -1) 4 M = some (b01 (chC (r.2 1) (cn (r.2 1) 12) 4 k)) := unlike_cl G hk (c := 4) (by decide)
    have w1 : f_Log_cellOf (x + 2 + 9) (iN k) 1 M = some (iN p) := (f_Log_cellOf_eq G (c := 1) hk (by decide)).trans (by rw [e1])
    have w2 : f_Log_cellOf (x + 2 + 9) (iN k) 2 M = some (iN s) := (f_Log_cellOf_eq G (c := 2) hk (by decide)).trans (by rw [e2])
    have e75 : ∀ (u v : Int32) (bf : Int32), bf = (if bfN (r.2 1) (cn (r.2 1) 12) k < cn (r.2 1) 12 then iN (bfN (r.2 1) (cn (r.2 1) 12) k) else -1) → f_CT_changed_75 N x a M (f_CT_changed_7 N x a M fuel) u v (iN k) bf = f_CT_changed_7 N x a M fuel (if chC (r.2 1) (cn (r.2 1) 12) 4 k = true then u ||| ((1 : Int32) <<< (iN s &&& 31)) else u) (if chC (r.2 1) (cn (r.2 1) 12) 4 k = true then v + 1 else v) (iN (k + 1)) := fun u v bf hbf => by
      unfold f_CT_changed_75
      rw [hbf]
      simp only [G.A.gN, G.S.g_log, G.S.c9, ob, u4, w2, iN_s]
      cases chC (r.2 1) (cn (r.2 1) 12) 4 k with
      | true => rw [if_neg (show ¬ b01 true = 0 by decide), if_pos rfl, if_pos rfl]
      | false => rw [if_pos (show b01 false = 0 from rfl), if_neg (by decide), if_neg (by decide)]
    refine ⟨((if chC (r.2 1) (cn (r.2 1) 12) 4 k = true then (if chC (r.2 1) (cn (r.2 1) 12) 3 k = true then z.1 ||| ((1 : Int32) <<< (iN p &&& 31)) else z.1) ||| ((1 : Int32) <<< (iN s &&& 31)) else (if chC (r.2 1) (cn (r.2 1) 12) 3 k = true then z.1 ||| ((1 : Int32) <<< (iN p &&& 31)) else z.1)), (if chC (r.2 1) (cn (r.2 1) 12) 4 k = true then (if chC (r.2 1) (cn (r.2 1) 12) 3 k = true then z.2 + 1 else z.2) + 1 else (if chC (r.2 1) (cn (r.2 1) 12) 3 k = true then z.2 + 1 else z.2))), ?_, fun i hi => ?_, ?_⟩
    · show f_CT_changed_7 N x a M (fuel + 1) z.1 z.2 (iN k) = f_CT_changed_7 N x a M fuel _ _ (iN (k + 1))
      rw [f_CT_changed_7]
      simp only [G.A.gN, G.S.g_log, G.S.i9, G.S.c9, G.R.G.1, G.I.n12, ob, iN_nle hk (show cn (r.2 1) 12 < 2147483648 by omega), ↓reduceIte, timeBefore_cl G hN hk, u3, w1, e75 _ _ _ rfl]
      cases chC (r.2 1) (cn (r.2 1) 12) 3 k with
      | true =>
        rw [if_neg (show ¬ b01 true = 0 by decide)]
        rfl
      | false =>
        rw [if_pos (show b01 false = 0 from rfl)]
        rfl
    · have split : (∃ j, j < cn (r.2 1) 12 ∧ j < k + 1 ∧ ((chC (r.2 1) (cn (r.2 1) 12) 3 j = true ∧ lgc (r.2 1) j 1 = iN i) ∨ (chC (r.2 1) (cn (r.2 1) 12) 4 j = true ∧ lgc (r.2 1) j 2 = iN i))) ↔ (∃ j, j < cn (r.2 1) 12 ∧ j < k ∧ ((chC (r.2 1) (cn (r.2 1) 12) 3 j = true ∧ lgc (r.2 1) j 1 = iN i) ∨ (chC (r.2 1) (cn (r.2 1) 12) 4 j = true ∧ lgc (r.2 1) j 2 = iN i))) ∨ ((chC (r.2 1) (cn (r.2 1) 12) 3 k = true ∧ i = p) ∨ (chC (r.2 1) (cn (r.2 1) 12) 4 k = true ∧ i = s)) := by
        constructor
        · rintro ⟨j, q1, q2, q3⟩
          by_cases hjk : j = k
          · subst hjk
            refine Or.inr (q3.imp (fun q => ⟨q.1, ?_⟩) fun q => ⟨q.1, ?_⟩)
            · rw [e1] at q; exact ((iN_inj (by omega) (by omega)).mp q.2).symm
            · rw [e2] at q; exact ((iN_inj (by omega) (by omega)).mp q.2).symm
          · exact Or.inl ⟨j, q1, by omega, q3⟩
        · rintro (⟨j, q1, q2, q3⟩ | q3)
          · exact ⟨j, q1, by omega, q3⟩
          · exact ⟨k, hk, Nat.lt_succ_self k, q3.imp (fun q => ⟨q.1, by rw [e1, q.2]⟩) fun q => ⟨q.1, by rw [e2, q.2]⟩⟩
      refine Iff.trans ?_ split.symm
      rw [← h1 i hi]
      dsimp only
      cases chC (r.2 1) (cn (r.2 1) 12) 3 k <;> cases chC (r.2 1) (cn (r.2 1) 12) 4 k <;> simp [ib_or, ib_shl (show p < 32 by omega), ib_shl (show s < 32 by omega), or_assoc]
    · dsimp only
      rw [ctB_s, ctB_s, h2]
      cases chC (r.2 1) (cn (r.2 1) 12) 3 k <;> cases chC (r.2 1) (cn (r.2 1) 12) 4 k <;> simp only [if_true, if_false, iN_s, Bool.false_eq_true, Nat.add_zero] <;> exact congrArg iN (by omega)
end Ch
