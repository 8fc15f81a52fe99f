section Tw
variable {N x o : Nat} {ps ys : Nat → Nat} {M : Mem} {r : Rho} {a b c : Int32}
/-! rests of two -/
/-- one does as well as by the other choice: A apart, t takes, u the other one takes -/
def cT (A t u : Int32) : Bool := if t = u then (if t = 0 then decide (¬ (0 + 1 : Int32) < A + 0) else decide (¬ (0 + 0 : Int32) < A + 1)) else (if t = 0 then decide (¬ A + 1 < (0 + 0 : Int32)) else decide (¬ A + 0 < (0 + 1 : Int32)))
theorem i01n : ¬ (0 : Int32) = 1 := by decide
theorem dec_b {p : Prop} (inst : Decidable p) (x : Option Int32) (h1 : p → x = some 0) (h2 : ¬ p → x = some 1) : x = some (b01 (decide (¬ p))) := by
  by_cases h : p
  · rw [h1 h, decide_eq_false (fun q => q h)]
    rfl
  · rw [h2 h, decide_eq_true h]
    rfl
theorem isContent_eq (A : Int32) {t u : Int32} (ht : t = 0 ∨ t = 1) (hu : u = 0 ∨ u = 1) : f_CT_isContent A t u = some (b01 (cT A t u)) := by
  unfold f_CT_isContent f_CT_isContent_10 f_CT_isContent_19 f_CT_isContent_31 f_CT_isContent_40
  rcases ht with rfl | rfl <;> rcases hu with rfl | rfl
  · rw [show cT A 0 0 = decide (¬ (0 + 1 : Int32) < A + 0) from rfl, if_pos rfl, if_pos rfl, if_pos rfl, if_pos rfl]
    exact dec_b _ _ (fun h => if_pos h) (fun h => if_neg h)
  · rw [show cT A 0 1 = decide (¬ A + 1 < (0 + 0 : Int32)) from rfl, if_neg i01n, if_pos rfl, if_neg i01n, if_pos rfl]
    exact dec_b _ _ (fun h => if_pos h) (fun h => if_neg h)
  · rw [show cT A 1 0 = decide (¬ A + 0 < (0 + 1 : Int32)) from rfl, if_neg i1n, if_neg i1n, if_neg i1n, if_neg i1n]
    exact dec_b _ _ (fun h => if_pos h) (fun h => if_neg h)
  · rw [show cT A 1 1 = decide (¬ (0 + 0 : Int32) < A + 1) from rfl, if_pos rfl, if_neg i1n, if_pos rfl, if_neg i1n]
    exact dec_b _ _ (fun h => if_pos h) (fun h => if_neg h)
/-- what it costs one who takes, or not, if the other one takes, or not -/
theorem pays_eq {p q : Nat} (hp : p < 10) (hq : q < 10) (hpq : costM (r.2 1) (pC (r.2 1) q 1) (pC (r.2 1) p 1) = costM (r.2 1) (pC (r.2 1) p 1) (pC (r.2 1) q 1)) {t u : Int32} (ht : t = 0 ∨ t = 1) (hu : u = 0 ∨ u = 1) : f_R_pays (iN p) (iN q) t u r = some ((if t = u then coM (r.2 1) p q else 0) + t) := by
  unfold f_R_pays f_R_pays_19 f_R_pays_41 f_R_pays_60 coM
  rcases ht with rfl | rfl <;> rcases hu with rfl | rfl
  · rw [if_pos rfl, of1 hp, ob, if_pos rfl, of1 hq, ob, f_R_costOf_eq, ob, if_pos rfl, if_pos rfl]
  · rw [if_pos rfl, of1 hp, ob, if_neg (by decide), ob, f_R_costOf_eq, ob, if_pos rfl, if_neg (by decide), costM_self]
  · rw [if_neg (by decide), of1 hq, ob, if_pos rfl, ob, f_R_costOf_eq, ob, if_neg (by decide), if_neg (by decide), costM_self]
  · rw [if_neg (by decide), of1 hq, ob, if_neg (by decide), of1 hp, ob, f_R_costOf_eq, ob, if_neg (by decide), if_pos rfl, hpq]
def rsS (A : Int32) (k : Nat) (z : Int32) : Int32 := if cT A (iN (k % 2)) (iN (k / 2)) = true ∧ cT A (iN (k / 2)) (iN (k % 2)) = true then z ||| ((1 : Int32) <<< (iN k &&& 31)) else z
def rsM (A : Int32) : Int32 := lp (rsS A) 4 0 0
theorem rest_and : ∀ k : Fin 4, (iN k.val &&& 1 = iN (k.val % 2)) ∧ ((iN k.val &&& 2 = 0) ↔ k.val / 2 = 0) ∧ k.val / 2 < 2 ∧ (((iN k.val >>> (0 &&& 31)) &&& 1 = 1) ↔ k.val % 2 = 1) ∧ (((iN k.val >>> (1 &&& 31)) &&& 1 = 1) ↔ k.val / 2 = 1) := by decide +kernel
theorem rests_cl (A : Int32) (a0 a1 : Int32) (hN : 10 < N) : f_CT_rests_22 N x a0 a1 N A 0 0 M = some (.inl (rsM A), M) := by
  unfold rsM
  refine lp_run (F := fun fuel k z => f_CT_rests_22 N x a0 a1 fuel A z (iN k) M) (f := rsS A) (fin := fun z => some (.inl z, M)) (n := 4) (fun fuel z => ?_) (fun fuel k z hk => ?_) 4 0 0 N (by omega) (by omega)
  · exact if_pos (i_le_rfl 4)
  · obtain ⟨h1, h2, h3, -, -⟩ := rest_and ⟨k, hk⟩
    dsimp only at h1 h2 h3
    have hl : ¬ (4 : Int32) ≤ iN k := iN_nle (n := 4) hk (by decide)
    have fin : f_CT_rests_54 N x a0 a1 (f_CT_rests_22 N x a0 a1 fuel) A z (iN k) (iN (k % 2)) (iN (k / 2)) M = f_CT_rests_22 N x a0 a1 fuel A (rsS A k z) (iN (k + 1)) M := by
      have b1 : iN (k % 2) = 0 ∨ iN (k % 2) = 1 := by
        have : k % 2 = 0 ∨ k % 2 = 1 := by omega
        rcases this with h | h <;> rw [h]
        · exact Or.inl rfl
        · exact Or.inr rfl
      have b2 : iN (k / 2) = 0 ∨ iN (k / 2) = 1 := by
        have : k / 2 = 0 ∨ k / 2 = 1 := by omega
        rcases this with h | h <;> rw [h]
        · exact Or.inl rfl
        · exact Or.inr rfl
      unfold f_CT_rests_54 rsS
      rw [isContent_eq A b1 b2, ob, isContent_eq A b2 b1, iN_s]
      cases cT A (iN (k % 2)) (iN (k / 2)) <;> cases cT A (iN (k / 2)) (iN (k % 2)) <;> rfl
    rw [f_CT_rests_22, if_neg hl, h1]
    have m2 : k % 2 = 0 ∨ k % 2 = 1 := by omega
    have d2 : k / 2 = 0 ∨ k / 2 = 1 := by omega
    unfold f_CT_rests_40
    rcases m2 with m2 | m2
    · rw [m2] at fin ⊢
      rw [if_pos (show iN 0 = 0 from rfl)]
      rcases d2 with d2 | d2
      · rw [if_pos (h2.mpr d2)]
        rw [d2] at fin
        exact fin
      · rw [if_neg fun q => by have := h2.mp q; omega]
        rw [d2] at fin
        exact fin
    · rw [m2] at fin ⊢
      rw [if_neg (show ¬ iN 1 = 0 by decide)]
      rcases d2 with d2 | d2
      · rw [if_pos (h2.mpr d2)]
        rw [d2] at fin
        exact fin
      · rw [if_neg fun q => by have := h2.mp q; omega]
        rw [d2] at fin
        exact fin
theorem rests_md {p q : Nat} (I : Inv (r.2 1)) (hp : p < cn (r.2 1) 5) (hq : q < cn (r.2 1) 5) (hN : 10 < N) : f_R_rests_24 N (iN p) (iN q) N 0 0 r = some (rsM (coM (r.2 1) p q), r) := by
  have h5 := I.b5
  have hp2 : p < 10 := by omega
  have hq2 : q < 10 := by omega
  have cc : costM (r.2 1) (pC (r.2 1) q 1) (pC (r.2 1) p 1) = costM (r.2 1) (pC (r.2 1) p 1) (pC (r.2 1) q 1) := costM_comm (I.p hq).1.2.1 (I.p hp).1.2.1
  have P := fun {t u : Int32} (ht : t = 0 ∨ t = 1) (hu : u = 0 ∨ u = 1) => pays_eq (r := r) hp2 hq2 cc ht hu
  have Q := fun {t u : Int32} (ht : t = 0 ∨ t = 1) (hu : u = 0 ∨ u = 1) => pays_eq (r := r) hq2 hp2 cc.symm ht hu
  have eA : coM (r.2 1) q p = coM (r.2 1) p q := cc
  rw [eA] at Q
  generalize coM (r.2 1) p q = A at P Q ⊢
  unfold rsM
  refine lp_run (F := fun fuel k z => f_R_rests_24 N (iN p) (iN q) fuel z (iN k) r) (f := rsS A) (fin := fun z => some (z, r)) (n := 4) (fun fuel z => ?_) (fun fuel k z hk => ?_) 4 0 0 N (by omega) (by omega)
  · exact if_pos (i_le_rfl 4)
  · obtain ⟨-, -, -, h4, h5⟩ := rest_and ⟨k, hk⟩
    dsimp only at h4 h5
    have hl : ¬ (4 : Int32) ≤ iN k := iN_nle (n := 4) hk (by decide)
    have o0 : f_R_isOf (iN k) 0 = some (iN (k % 2)) := by
      unfold f_R_isOf
      have m2 : k % 2 = 0 ∨ k % 2 = 1 := by omega
      rcases m2 with m2 | m2
      · rw [if_neg fun q => by have := h4.mp q; omega, m2]
        rfl
      · rw [if_pos (h4.mpr m2), m2]
        rfl
    have o1 : f_R_isOf (iN k) 1 = some (iN (k / 2)) := by
      unfold f_R_isOf
      have m2 : k / 2 = 0 ∨ k / 2 = 1 := by omega
      rcases m2 with m2 | m2
      · rw [if_neg fun q => by have := h5.mp q; omega, m2]
        rfl
      · rw [if_pos (h5.mpr m2), m2]
        rfl
    rw [f_R_rests_24, if_neg hl, o0, ob, o1, ob]
    unfold f_R_rests_59 f_R_rests_90 rsS cT
    have m2 : k % 2 = 0 ∨ k % 2 = 1 := by omega
    have d2 : k / 2 = 0 ∨ k / 2 = 1 := by omega
    have z0 : (0 : Int32) = 0 ∨ (0 : Int32) = 1 := Or.inl rfl
    have z1 : (1 : Int32) = 0 ∨ (1 : Int32) = 1 := Or.inr rfl
    rcases m2 with m2 | m2 <;> rcases d2 with d2 | d2 <;> rw [m2, d2] <;> simp only [← q0, ← q1, P z0 z0, P z0 z1, P z1 z0, P z1 z1, Q z0 z0, Q z0 z1, Q z1 z0, Q z1 z1, ob, iN_s, ↓reduceIte, i1n, (by decide : ¬ (0 : Int32) = 1), decide_eq_true_eq, decide_not, Bool.not_eq_true', decide_eq_false_iff_not, Int32.add_zero]
    · by_cases h : (0 + 1 : Int32) < A
      · simp only [h, ↓reduceIte, not_true_eq_false, and_self]
      · simp only [h, ↓reduceIte, not_false_eq_true, and_self]
    · by_cases h : A + 1 < (0 : Int32)
      · by_cases h2 : A < (0 + 1 : Int32) <;> simp only [h, h2, ↓reduceIte, not_true_eq_false, not_false_eq_true, and_self, and_true, and_false, false_and, true_and]
      · by_cases h2 : A < (0 + 1 : Int32) <;> simp only [h, h2, ↓reduceIte, not_true_eq_false, not_false_eq_true, and_self, and_true, and_false, false_and, true_and]
    · by_cases h : A + 1 < (0 : Int32)
      · by_cases h2 : A < (0 + 1 : Int32) <;> simp only [h, h2, ↓reduceIte, not_true_eq_false, not_false_eq_true, and_self, and_true, and_false, false_and, true_and]
      · by_cases h2 : A < (0 + 1 : Int32) <;> simp only [h, h2, ↓reduceIte, not_true_eq_false, not_false_eq_true, and_self, and_true, and_false, false_and, true_and]
    · by_cases h : (0 : Int32) < A + 1
      · simp only [h, ↓reduceIte, not_true_eq_false, and_self]
      · simp only [h, ↓reduceIte, not_false_eq_true, and_self]
theorem op_rests (G : GS N x o ps ys M r) (hN : 10 < N) : Both N x o (f_L_rests N x a b o M) (f_R_rests N a b r) := by
  by_cases h : okT (r.2 1) a b
  · obtain ⟨p, q, hp, hq, hpq, rfl, rfl⟩ := h
    obtain ⟨e1, e2⟩ := two_ok G hp hq hpq
    refine both_ok (v := rsM (coM (r.2 1) p q)) (G.th 0) (th0 r 0) ?_ ?_
    · unfold f_L_rests f_CT_rests
      rw [G.A.c, ob, ob, e1, ob, sx_l, G.A.gN, ob, G.S.c0, ob, f_Town_costOfOwns_eq G.S G.I G.R hp hq, ob, rests_cl _ _ _ hN, ob, sx_l]
      rfl
    · unfold f_R_rests
      rw [e2, ob, th0, if_pos i00]
      exact rests_md (thI G.I 0) hp hq hN
  · rcases two_ex G h with ⟨e1, e2⟩ | ⟨e1, e2⟩
    · refine both_ex (c := 1) (v := 0) (G.new.th 1) i1n (th0 r 1) ?_ ?_
      · unfold f_L_rests f_CT_rests
        rw [G.A.c, ob, ob, e1, ob, sx_r, ob, sx_r, if_pos rfl]
      · unfold f_R_rests
        rw [e2, ob, th0, if_neg i10]
    · refine both_ex (c := 2) (v := 0) (G.new.th 2) (by decide) (th0 r 2) ?_ ?_
      · unfold f_L_rests f_CT_rests
        rw [G.A.c, ob, ob, e1, ob, sx_r, ob, sx_r, if_neg (by decide), if_pos rfl]
      · unfold f_R_rests
        rw [e2, ob, th0, if_neg i20]
/-! two who come to meet each other's count -/
def twR (a b : Int32) : Int32 := if b ≤ a then (if a ≤ b then a else a - 1) else a + 1
theorem towards_eq (a b : Int32) : f_R_towards a b = some (twR a b) := by
  unfold f_R_towards twR
  by_cases h : b ≤ a
  · rw [if_pos h, if_pos h]
    by_cases h2 : a ≤ b
    · rw [if_pos h2, if_pos h2]
    · rw [if_neg h2, if_neg h2]
  · rw [if_neg h, if_neg h]
def skR (led : Bool) : Nat → Int32 → Int32 → Int32 → Int32
  | 0, _, _, _ => -1
  | n + 1, a, b, k => if 8 ≤ k then -1 else if a = b then k else skR led n (if led = true then a else twR a b) (twR b a) (k + 1)
theorem sake_70_eq (a0 a1 a2 : Int32) : ∀ (j fuel k : Nat) (a b : Int32), k + j = 8 → j < fuel → f_R_sake_70 N a0 a1 a2 fuel a b (iN k) r = some (skR (decide (a2 ≠ 0)) (j + 1) a b (iN k), r) := by
  intro j
  induction j with
  | zero =>
    intro fuel k a b hk hf
    obtain ⟨fu, rfl⟩ : ∃ fu, fuel = fu + 1 := ⟨fuel - 1, by omega⟩
    obtain rfl : k = 8 := by omega
    rw [f_R_sake_70, skR, if_pos (show (8 : Int32) ≤ iN 8 from i_le_rfl 8), if_pos (show (8 : Int32) ≤ iN 8 from i_le_rfl 8)]
  | succ j ih =>
    intro fuel k a b hk hf
    obtain ⟨fu, rfl⟩ : ∃ fu, fuel = fu + 1 := ⟨fuel - 1, by omega⟩
    have hl : ¬ (8 : Int32) ≤ iN k := iN_nle (n := 8) (by omega) (by decide)
    rw [f_R_sake_70, skR, if_neg hl, if_neg hl]
    by_cases hab : a = b
    · rw [if_pos hab, if_pos hab]
    · rw [if_neg hab, if_neg hab]
      by_cases h2 : a2 = 0
      · rw [if_pos h2, towards_eq, ob]
        unfold f_R_sake_104
        rw [towards_eq, ob, iN_s, ih fu (k + 1) _ _ (by omega) (by omega), if_neg (by simp [h2])]
      · rw [if_neg h2]
        unfold f_R_sake_104
        rw [towards_eq, ob, iN_s, ih fu (k + 1) _ _ (by omega) (by omega), if_pos (by simp [h2])]
theorem sk_all : ∀ (a b : Fin 4), skR true 9 (iN (a.val + 1)) (iN (b.val + 1)) 0 = absI (iN (a.val + 1) - iN (b.val + 1)) ∧ skR false 9 (iN (a.val + 1)) (iN (b.val + 1)) 0 = (if absI (iN (a.val + 1) - iN (b.val + 1)) - absI (iN (a.val + 1) - iN (b.val + 1)) / 2 * 2 = 0 then absI (iN (a.val + 1) - iN (b.val + 1)) / 2 else -1) := by decide +kernel
theorem abs_eq (d : Int32) : f_Math_abs d = some (absI d) := by
  unfold f_Math_abs absI
  by_cases h : 0 ≤ d
  · rw [if_pos h, if_pos h]
  · rw [if_neg h, if_neg h]
theorem op_sake (G : GS N x o ps ys M r) (hN : 10 < N) : Both N x o (f_L_sake x a b c o M) (f_R_sake N a b c r) := by
  have h5 := G.I.b5
  by_cases h : okT (r.2 1) a b
  · obtain ⟨p, q, hp, hq, hpq, rfl, rfl⟩ := h
    obtain ⟨e1, e2⟩ := two_ok G hp hq hpq
    have hp2 : p < 10 := by omega
    have hq2 : q < 10 := by omega
    obtain ⟨g, hg, eg⟩ := (G.I.p hp).1.2.1
    obtain ⟨f, hf, ef⟩ := (G.I.p hq).1.2.1
    have cg : ∀ v, f_CT_sake x (iN p) (iN q) c M = some (.inl v, M) → f_L_sake x (iN p) (iN q) c o M = lsO o v M := fun v h => by
      unfold f_L_sake
      rw [G.A.c, ob, h, ob, sx_l]
      rfl
    have k1 : f_Manners_kindOf (iN g) = some (iN g >>> (3 &&& 31)) := rfl
    have k2 : f_Manners_kindOf (iN f) = some (iN f >>> (3 &&& 31)) := rfl
    have m1 : f_R_of (iN p) 1 (r_set r 0 0) = some (iN g) := (of1 hp2).trans (congrArg some eg)
    have m2 : f_R_of (iN q) 1 (r_set r 0 0) = some (iN f) := (of1 hq2).trans (congrArg some ef)
    by_cases hk1 : iN g >>> (3 &&& 31) = 2
    · by_cases hk2 : iN f >>> (3 &&& 31) = 2
      · have cgv : cntI (iN g) = iN (g / 2 % 4 + 1) := cnt_all ⟨g, hg⟩
        have cfv : cntI (iN f) = iN (f / 2 % 4 + 1) := cnt_all ⟨f, hf⟩
        have sk := sk_all ⟨g / 2 % 4, by omega⟩ ⟨f / 2 % 4, by omega⟩
        dsimp only at sk
        refine both_ok (v := skR (decide (c ≠ 0)) 9 (cntI (iN g)) (cntI (iN f)) 0) (G.th 0) (th0 r 0) (cg _ ?_) ?_
        · unfold f_CT_sake
          rw [G.A.c, ob, e1, ob, sx_l, G.A.gN, ob, G.S.g_people, ob, G.S.g_person hp2, ob, G.S.iP hp2, ob, ob, G.S.g_people, ob, G.S.g_person hq2, ob, G.S.iP hq2, ob, G.R.q1 G.I hp, G.R.q1 G.I hq, eg, ef, k1, ob, if_pos hk1, k2, ob, if_pos hk2]
          rw [show f_Manners_countOf (iN g) = some (cntI (iN g)) from rfl, show f_Manners_countOf (iN f) = some (cntI (iN f)) from rfl, ob, ob, abs_eq, ob, cgv, cfv]
          by_cases hc : c = 0
          · rw [if_pos hc, show decide (c ≠ 0) = false by simp [hc], sk.2]
            by_cases h9 : absI (iN (g / 2 % 4 + 1) - iN (f / 2 % 4 + 1)) - absI (iN (g / 2 % 4 + 1) - iN (f / 2 % 4 + 1)) / 2 * 2 = 0
            · rw [if_pos h9, if_pos h9]
            · rw [if_neg h9, if_neg h9]
          · rw [if_neg hc, show decide (c ≠ 0) = true by simp [hc], sk.1]
        · unfold f_R_sake
          rw [e2, ob, th0, if_pos i00, m1, ob, if_pos hk1, m2, ob, if_pos hk2, ob, show f_R_countOf (iN g) = some (cntI (iN g)) from rfl, ob, ob, show f_R_countOf (iN f) = some (cntI (iN f)) from rfl, ob]
          exact sake_70_eq (iN p) (iN q) c 8 N 0 _ _ (by decide) (by omega)
      · refine both_ok (v := -1) (G.th 0) (th0 r 0) (cg _ ?_) ?_
        · unfold f_CT_sake
          rw [G.A.c, ob, e1, ob, sx_l, G.A.gN, ob, G.S.g_people, ob, G.S.g_person hp2, ob, G.S.iP hp2, ob, ob, G.S.g_people, ob, G.S.g_person hq2, ob, G.S.iP hq2, ob, G.R.q1 G.I hp, G.R.q1 G.I hq, eg, ef, k1, ob, if_pos hk1, k2, ob, if_neg hk2]
        · unfold f_R_sake
          rw [e2, ob, th0, if_pos i00, m1, ob, if_pos hk1, m2, ob, if_neg hk2]
    · refine both_ok (v := -1) (G.th 0) (th0 r 0) (cg _ ?_) ?_
      · unfold f_CT_sake
        rw [G.A.c, ob, e1, ob, sx_l, G.A.gN, ob, G.S.g_people, ob, G.S.g_person hp2, ob, G.S.iP hp2, ob, ob, G.S.g_people, ob, G.S.g_person hq2, ob, G.S.iP hq2, ob, G.R.q1 G.I hp, G.R.q1 G.I hq, eg, ef, k1, ob, if_neg hk1]
      · unfold f_R_sake
        rw [e2, ob, th0, if_pos i00, m1, ob, if_neg hk1]
  · rcases two_ex G h with ⟨e1, e2⟩ | ⟨e1, e2⟩
    · refine both_ex (c := 1) (v := 0) (G.new.th 1) i1n (th0 r 1) ?_ ?_
      · unfold f_L_sake f_CT_sake
        rw [G.A.c, ob, ob, e1, ob, sx_r, ob, sx_r, if_pos rfl]
      · unfold f_R_sake
        rw [e2, ob, th0, if_neg i10]
    · refine both_ex (c := 2) (v := 0) (G.new.th 2) (by decide) (th0 r 2) ?_ ?_
      · unfold f_L_sake f_CT_sake
        rw [G.A.c, ob, ob, e1, ob, sx_r, ob, sx_r, if_neg (by decide), if_pos rfl]
      · unfold f_R_sake
        rw [e2, ob, th0, if_neg i20]
end Tw
