/-! searches: the first k below n with c -/
theorem run_any {α : Type} {F : Nat → Nat → α} {c : Nat → Bool} {hit fin : α} {n : Nat} (hend : ∀ fuel, F (fuel + 1) n = fin) (hstep : ∀ fuel k, k < n → F (fuel + 1) k = if c k = true then hit else F fuel (k + 1)) :
    ∀ (j k fuel : Nat), k + j = n → j < fuel → (∀ i, i < k → c i = false) → F fuel k = if anyB c n = true then hit else fin := by
  intro j
  induction j with
  | zero =>
    intro k fuel hk hf hc
    obtain ⟨fu, rfl⟩ : ∃ fu, fuel = fu + 1 := ⟨fuel - 1, by omega⟩
    obtain rfl : k = n := by omega
    rw [hend fu, if_neg]
    intro h
    obtain ⟨i, h1, h2⟩ := (anyB_iff c k).mp h
    rw [hc i h1] at h2
    cases h2
  | succ j ih =>
    intro k fuel hk hf hc
    obtain ⟨fu, rfl⟩ : ∃ fu, fuel = fu + 1 := ⟨fuel - 1, by omega⟩
    rw [hstep fu k (by omega)]
    by_cases h : c k = true
    · rw [if_pos h, if_pos ((anyB_iff c n).mpr ⟨k, by omega, h⟩)]
    · rw [if_neg h]
      refine ih (k + 1) fu (by omega) (by omega) fun i hi => ?_
      by_cases hik : i = k
      · rw [hik]
        exact Bool.eq_false_iff.mpr h
      · exact hc i (by omega)
/-- sets as loops -/
theorem setB_lp (f : Nat → Bool) (n : Nat) : lp (fun k z => z ||| (if f k = true then (1 : Int32) <<< (iN k &&& 31) else 0)) n 0 0 = setB f n := by
  induction n with
  | zero => rfl
  | succ n ih =>
    rw [lp_snoc, ih, Nat.zero_add]
    show setB f n ||| (if f n = true then (1 : Int32) <<< (iN n &&& 31) else 0) = (if f n = true then setB f n ||| ((1 : Int32) <<< (iN n &&& 31)) else setB f n)
    by_cases h : f n = true
    · rw [if_pos h, if_pos h]
    · rw [if_neg h, if_neg h, Int32.or_zero]
theorem tdB_comm (m : Nat → Int32) (a b : Nat) : tdB m a b = tdB m b a := by
  unfold tdB
  refine congrArg (fun f => anyB f (cn m 6)) (funext fun k => decide_eq_decide.mpr ?_)
  exact ⟨fun h => h.symm, fun h => h.symm⟩
theorem tdB_iff (m : Nat → Int32) (a b : Nat) : tdB m a b = true ↔ ∃ k, k < cn m 6 ∧ (tieOf m k a b ∨ tieOf m k b a) := by
  unfold tdB
  rw [anyB_iff]
  constructor
  · rintro ⟨k, h1, h2⟩
    exact ⟨k, h1, (decide_eq_true_eq.mp h2 : (tA m k = iN a ∧ tB m k = iN b) ∨ (tA m k = iN b ∧ tB m k = iN a))⟩
  · rintro ⟨k, h1, h2⟩
    exact ⟨k, h1, decide_eq_true_eq.mpr (h2 : (tA m k = iN a ∧ tB m k = iN b) ∨ (tA m k = iN b ∧ tB m k = iN a))⟩
/-- only people are tied -/
theorem Inv.td {m : Nat → Int32} (I : Inv m) {a b : Nat} (ha : a < 100) (hb : b < 100) (h : tdB m a b = true) : a < cn m 5 ∧ b < cn m 5 ∧ a ≠ b := by
  obtain ⟨k, hk, h⟩ := (tdB_iff m a b).mp h
  obtain ⟨x, y, hx, hy, hxy, h1, h2⟩ := I.t hk
  have hbb := I.b5
  rcases h with ⟨h3, h4⟩ | ⟨h3, h4⟩
  · have e1 : x = a := (iN_inj (by omega) (by omega)).mp (h1.symm.trans h3)
    have e2 : y = b := (iN_inj (by omega) (by omega)).mp (h2.symm.trans h4)
    subst e1 e2
    exact ⟨hx, hy, hxy⟩
  · have e1 : x = b := (iN_inj (by omega) (by omega)).mp (h1.symm.trans h3)
    have e2 : y = a := (iN_inj (by omega) (by omega)).mp (h2.symm.trans h4)
    subst e1 e2
    exact ⟨hy, hx, fun q => hxy q.symm⟩
theorem ib_tdS {m : Nat → Int32} (I : Inv m) {a b : Nat} (ha : a < 100) (hb : b < 32) : ib (tdS m a) b = tdB m a b := by
  unfold tdS
  have hbb := I.b5
  rw [ib_setB _ (by omega)]
  cases h : tdB m a b with
  | false => rw [Bool.and_false]
  | true => rw [decide_eq_true (I.td ha (by omega) h).2.1, Bool.and_true]
section Pe
variable {r : Rho} {M : Mem} {t N : Nat} {m : Nat → Int32} {a b p : Nat}
theorem f_R_areTied_eq (I : Inv (r.2 1)) (hN : 40 < N) (x y : Nat) : f_R_areTied N (iN x) (iN y) r = some (b01 (tdB (r.2 1) x y)) := by
  unfold f_R_areTied
  have hn := I.n6
  have hb := I.b6
  have h := run_any (F := fun fuel k => f_R_areTied_2 N (iN x) (iN y) r fuel (iN k)) (c := fun k => decide ((tA (r.2 1) k = iN x ∧ tB (r.2 1) k = iN y) ∨ (tA (r.2 1) k = iN y ∧ tB (r.2 1) k = iN x))) (hit := some 1) (fin := some 0) (n := cn (r.2 1) 6) (fun fuel => ?_) (fun fuel k hk => ?_) (cn (r.2 1) 6) 0 N (by omega) (by omega) (fun i hi => absurd hi (Nat.not_lt_zero i))
  · refine h.trans ?_
    show (if tdB (r.2 1) x y = true then some 1 else some 0) = _
    cases tdB (r.2 1) x y <;> rfl
  · simp only [f_R_areTied_2, rlm6, hn, ob, i_le_rfl, ↓reduceIte]
  · simp only [f_R_areTied_2, f_R_areTied_31, rlm6, hn, ob, iN_nle hk (by omega), ↓reduceIte, who_k (r := r) (show k < 24 by omega), whom_k (r := r) (show k < 24 by omega), iN_s, decide_eq_true_eq]
    by_cases h1 : tA (r.2 1) k = iN x
    · by_cases h2 : tB (r.2 1) k = iN y
      · rw [if_pos h1, if_pos h2, if_pos (Or.inl ⟨h1, h2⟩)]
      · by_cases h3 : tA (r.2 1) k = iN y
        · by_cases h4 : tB (r.2 1) k = iN x
          · rw [if_pos h1, if_neg h2, if_pos h3, if_pos h4, if_pos (Or.inr ⟨h3, h4⟩)]
          · rw [if_pos h1, if_neg h2, if_pos h3, if_neg h4, if_neg]
            exact fun q => q.elim (fun q => h2 q.2) (fun q => h4 q.2)
        · rw [if_pos h1, if_neg h2, if_neg h3, if_neg]
          exact fun q => q.elim (fun q => h2 q.2) (fun q => h3 q.1)
    · by_cases h3 : tA (r.2 1) k = iN y
      · by_cases h4 : tB (r.2 1) k = iN x
        · rw [if_neg h1, if_pos h3, if_pos h4, if_pos (Or.inr ⟨h3, h4⟩)]
        · rw [if_neg h1, if_pos h3, if_neg h4, if_neg]
          exact fun q => q.elim (fun q => h1 q.1) (fun q => h4 q.2)
      · rw [if_neg h1, if_neg h3, if_neg]
        exact fun q => q.elim (fun q => h1 q.1) (fun q => h3 q.1)
theorem f_R_tiedTo_eq (I : Inv (r.2 1)) (hN : 40 < N) (p : Nat) : f_R_tiedTo N (iN p) r = some (tdS (r.2 1) p) := by
  unfold f_R_tiedTo
  have hn := I.n5
  have hb := I.b5
  refine (lp_run (F := fun fuel k z => f_R_tiedTo_4 N (iN p) r fuel z (iN k)) (f := fun k z => z ||| (if tdB (r.2 1) p k = true then (1 : Int32) <<< (iN k &&& 31) else 0)) (fin := fun z => some z) (n := cn (r.2 1) 5) (fun fuel z => ?_) (fun fuel k z hk => ?_) _ 0 0 N (by omega) (by omega)).trans (congrArg some (setB_lp _ _))
  · simp only [f_R_tiedTo_4, rlm5, hn, ob, i_le_rfl, ↓reduceIte]
  · simp only [f_R_tiedTo_4, f_R_tiedTo_31, rlm5, hn, ob, iN_nle hk (by omega), ↓reduceIte, f_R_areTied_eq I hN, iN_s]
    cases tdB (r.2 1) p k <;> rfl
theorem f_Town_areTied_eq (S : Shape M t) (I : Inv m) (R : TRel M t m) (ha : a < cn m 5) (hb : b < cn m 5) : f_Town_areTied t (iN a) (iN b) M = some (b01 (tdB m a b)) := by
  have h5 := I.b5
  have ha2 : a < 10 := by omega
  unfold f_Town_areTied
  simp only [S.g_people, S.g_person ha2, S.iP ha2, R.q5 I ha, ob, f_CT_isIn_eq (show b < 32 by omega), ib_tdS I (show a < 100 by omega) (show b < 32 by omega), zg_b]
/-- who has a cold -/
def cdS (m : Nat → Int32) : Int32 := setB (fun p => decide (pC m p 4 ≠ 0)) (cn m 5)
theorem f_Town_peopleWithCold_eq (S : Shape M t) (I : Inv m) (R : TRel M t m) (hN : 40 < N) : f_Town_peopleWithCold N t M = some (cdS m) := by
  unfold f_Town_peopleWithCold
  have hn := I.n5
  have hb := I.b5
  refine (lp_run (F := fun fuel k z => f_Town_peopleWithCold_4 N t M fuel z (iN k)) (f := fun k z => z ||| (if decide (pC m k 4 ≠ 0) = true then (1 : Int32) <<< (iN k &&& 31) else 0)) (fin := fun z => some z) (n := cn m 5) (fun fuel z => ?_) (fun fuel k z hk => ?_) _ 0 0 N (by omega) (by omega)).trans (congrArg some (setB_lp _ _))
  · simp only [f_Town_peopleWithCold_4, S.i0, R.v5, hn, ob, i_le_rfl, ↓reduceIte]
  · simp only [f_Town_peopleWithCold_4, f_Town_peopleWithCold_32, S.i0, R.v5, hn, ob, iN_nle hk (by omega), ↓reduceIte, S.g_people, S.g_person (show k < 10 by omega), S.iP (show k < 10 by omega), R.q4 I hk, iN_s]
    by_cases h : pC m k 4 = 0
    · rw [if_pos h, if_neg (by simp [h])]
    · rw [if_neg h, if_pos (by simp [h])]
theorem f_R_coldsNow_eq (I : Inv (r.2 1)) (hN : 40 < N) : f_R_coldsNow N r = some (cdS (r.2 1)) := by
  unfold f_R_coldsNow
  have hn := I.n5
  have hb := I.b5
  refine (lp_run (F := fun fuel k z => f_R_coldsNow_4 N r fuel z (iN k)) (f := fun k z => z ||| (if decide (pC (r.2 1) k 4 ≠ 0) = true then (1 : Int32) <<< (iN k &&& 31) else 0)) (fin := fun z => some z) (n := cn (r.2 1) 5) (fun fuel z => ?_) (fun fuel k z hk => ?_) _ 0 0 N (by omega) (by omega)).trans (congrArg some (setB_lp _ _))
  · simp only [f_R_coldsNow_4, rlm5, hn, ob, i_le_rfl, ↓reduceIte]
  · simp only [f_R_coldsNow_4, rlm5, hn, ob, iN_nle hk (by omega), ↓reduceIte, of4 (r := r) (show k < 10 by omega), iN_s]
    rcases (I.p hk).2.1 with h | h
    · rw [h, if_neg (by decide), Int32.zero_shiftLeft]
    · rw [h, if_pos (by decide)]
/-- everybody -/
def evS (m : Nat → Int32) : Int32 := ((1 : Int32) <<< (m 5 &&& 31)) - 1
theorem f_Town_everybody_eq (S : Shape M t) (R : TRel M t m) : f_Town_everybody t M = some (evS m) := by
  unfold f_Town_everybody
  simp only [S.i0, R.v5, ob]
  rfl
/-- what the owns of two cost -/
def coM (m : Nat → Int32) (a b : Nat) : Int32 := costM m (pC m a 1) (pC m b 1)
theorem f_Town_costOfOwns_eq (S : Shape M t) (I : Inv m) (R : TRel M t m) (ha : a < cn m 5) (hb : b < cn m 5) : f_Town_costOfOwns t (iN a) (iN b) M = some (coM m a b) := by
  have h5 := I.b5
  unfold f_Town_costOfOwns
  simp only [S.g_lands, S.g_manners, S.g_people, S.g_person (show a < 10 by omega), S.g_person (show b < 10 by omega), S.iP (show a < 10 by omega), S.iP (show b < 10 by omega), R.q1 I ha, R.q1 I hb, S.c2, R.cost S, ob]
  rfl
theorem f_Person_meetings_eq (S : Shape M t) (I : Inv m) (R : TRel M t m) (hN : 40 < N) (hp : p < cn m 5) : f_Person_meetings N (t + 11 + 3 * p) M = some (hadM m p) := by
  have h5 := I.b5
  have hp2 : p < 10 := by omega
  unfold f_Person_meetings hadM
  refine lp_run (F := fun fuel k z => f_Person_meetings_4 N (t + 11 + 3 * p) M fuel z (iN k)) (f := fun k z => z + mt m p k) (fin := fun z => some z) (n := 10) (fun fuel z => ?_) (fun fuel k z hk => ?_) _ 0 0 N (by omega) (by omega)
  · exact if_pos (i_le_rfl 10)
  · have hl : ¬ (10 : Int32) ≤ iN k := iN_nle hk (by decide)
    simp only [f_Person_meetings_4, hl, ↓reduceIte, S.g_met hp2, S.aM hp2 hk, R.qm I hp hk, ob, iN_s]
/-- how many are of a land -/
def poM (m : Nat → Int32) (l : Int32) : Int32 := lp (fun k z => z + (if pC m k 0 = l then 1 else 0)) (cn m 5) 0 0
theorem f_R_peopleOf_eq (I : Inv (r.2 1)) (hN : 40 < N) (l : Int32) : f_R_peopleOf N l r = some (poM (r.2 1) l) := by
  unfold f_R_peopleOf poM
  have hn := I.n5
  have hb := I.b5
  refine lp_run (F := fun fuel k z => f_R_peopleOf_4 N l r fuel z (iN k)) (f := fun k z => z + (if pC (r.2 1) k 0 = l then 1 else 0)) (fin := fun z => some z) (n := cn (r.2 1) 5) (fun fuel z => ?_) (fun fuel k z hk => ?_) _ 0 0 N (by omega) (by omega)
  · simp only [f_R_peopleOf_4, rlm5, hn, ob, i_le_rfl, ↓reduceIte]
  · simp only [f_R_peopleOf_4, f_R_peopleOf_30, rlm5, hn, ob, iN_nle hk (by omega), ↓reduceIte, of0 (r := r) (show k < 10 by omega), iN_s]
    by_cases h : pC (r.2 1) k 0 = l
    · rw [if_pos h, if_pos h]
    · rw [if_neg h, if_neg h]
end Pe
