section Wo
variable {N x o t B : Nat} {ps ys : Nat → Nat} {M K : Mem} {r q : Rho} {a b d e v g : Int32} {n p s c k : Nat} {m m2 : Nat → Int32}
/-! sums over people, and over lands -/
theorem lp_two (g h : Nat → Int32) : ∀ (j k : Nat) (z w : Int32), lp (fun k z => z + (g k + h k)) j k (z + w) = lp (fun k z => z + g k) j k z + lp (fun k z => z + h k) j k w := by
  intro j
  induction j with
  | zero => intros; rfl
  | succ j ih =>
    intro k z w
    show lp _ j (k + 1) (z + w + (g k + h k)) = lp _ j (k + 1) (z + g k) + lp _ j (k + 1) (w + h k)
    rw [← ih (k + 1) (z + g k) (w + h k)]
    refine congrArg _ ?_
    rw [Int32.add_assoc, Int32.add_assoc, ← Int32.add_assoc w, Int32.add_comm w, Int32.add_assoc (g k)]
theorem lp_pick (E : Int32 → Int32) {i : Nat} (hi : i < 100) : ∀ (j k : Nat) (z : Int32), k + j < 100 → lp (fun k z => z + (if iN i = iN k then 1 else 0) * E (iN k)) j k z = z + (if k ≤ i ∧ i < k + j then E (iN i) else 0) := by
  intro j
  induction j with
  | zero =>
    intro k z _
    rw [if_neg (by omega), Int32.add_zero]
    rfl
  | succ j ih =>
    intro k z hk
    show lp (fun k z => z + (if iN i = iN k then 1 else 0) * E (iN k)) j (k + 1) (z + (if iN i = iN k then 1 else 0) * E (iN k)) = _
    rw [ih (k + 1) _ (by omega)]
    by_cases h : i = k
    · subst h
      rw [if_pos rfl, Int32.one_mul, if_neg (by omega), if_pos (by omega), Int32.add_zero]
    · rw [if_neg (iN_ne h (by omega) (by omega)), Int32.zero_mul, Int32.add_zero]
      by_cases h2 : k + 1 ≤ i ∧ i < k + 1 + j
      · rw [if_pos h2, if_pos (by omega)]
      · rw [if_neg h2, if_neg (by omega)]
def suM (m : Nat → Int32) (E : Int32 → Int32) : Int32 := lp (fun k z => z + E (pC m k 0)) (cn m 5) 0 0
def lsM (m : Nat → Int32) (E : Int32 → Int32) : Int32 := lp (fun k z => z + poM m (iN k) * E (iN k)) (cn m 3) 0 0
theorem lp_id : ∀ (j k : Nat) (z : Int32), lp (fun _ z => z) j k z = z := by
  intro j
  induction j with
  | zero => intros; rfl
  | succ j ih => intro k z; exact ih (k + 1) z
theorem su_ls (I : Inv m) (E : Int32 → Int32) : suM m E = lsM m E := by
  have h5 := I.b5
  have h3 := I.b3
  have key : ∀ n, n ≤ cn m 5 → lp (fun k z => z + E (pC m k 0)) n 0 0 = lp (fun k z => z + lp (fun i z => z + (if pC m i 0 = iN k then 1 else 0)) n 0 0 * E (iN k)) (cn m 3) 0 0 := by
    intro n
    induction n with
    | zero =>
      intro _
      rw [lp_congr (n := cn m 3) (f := fun k z => z + lp (fun i z => z + (if pC m i 0 = iN k then 1 else 0)) 0 0 0 * E (iN k)) (g := fun _ z => z) (fun k z _ => by
        show z + 0 * E (iN k) = z
        rw [Int32.zero_mul, Int32.add_zero]) _ _ _ (by omega), lp_id]
      rfl
    | succ n ih =>
      intro hn
      obtain ⟨i, hi, ei⟩ := (I.p (p := n) (by omega)).1.1
      rw [lp_snoc, ih (by omega), Nat.zero_add, ei]
      rw [lp_congr (n := cn m 3) (f := fun k z => z + lp (fun i z => z + (if pC m i 0 = iN k then 1 else 0)) (n + 1) 0 0 * E (iN k)) (g := fun k z => z + (lp (fun i z => z + (if pC m i 0 = iN k then 1 else 0)) n 0 0 * E (iN k) + (if iN i = iN k then 1 else 0) * E (iN k))) (fun k z _ => by
        show z + lp (fun i z => z + (if pC m i 0 = iN k then 1 else 0)) (n + 1) 0 0 * E (iN k) = _
        rw [lp_snoc, Nat.zero_add, ei, Int32.add_mul]) _ _ _ (by omega)]
      have h := lp_two (fun k => lp (fun i z => z + (if pC m i 0 = iN k then 1 else 0)) n 0 0 * E (iN k)) (fun k => (if iN i = iN k then 1 else 0) * E (iN k)) (cn m 3) 0 0 0
      rw [Int32.add_zero] at h
      rw [h, lp_pick E (by omega) _ _ _ (by omega), if_pos (by omega), Int32.zero_add]
  exact key (cn m 5) (Nat.le_refl _)
theorem f_Town_expectedByAll_eq (S : Shape M t) (I : Inv m) (R : TRel M t m) (hN : 40 < N) : f_Town_expectedByAll N t g M = some (suM m (fun l => exM m l g)) := by
  have h5 := I.b5
  unfold f_Town_expectedByAll suM
  refine lp_run (F := fun fuel k z => f_Town_expectedByAll_4 N t g M fuel z (iN k)) (f := fun k z => z + exM m (pC m k 0) g) (fin := fun z => some z) (n := cn m 5) (fun fuel z => ?_) (fun fuel k z hk => ?_) _ 0 0 N (by omega) (by omega)
  · rw [f_Town_expectedByAll_4, S.i0, ob, R.v5, I.n5, if_pos (i_le_rfl _)]
  · rw [f_Town_expectedByAll_4, S.i0, ob, R.v5, I.n5, if_neg (iN_nle hk (by omega)), S.g_lands, ob, S.g_people, ob, S.g_person (by omega), ob, S.iP (by omega), ob, S.c1, ob, R.q0 I hk, f_Lands_expectedOf_eq S I R (by omega), ob, iN_s]
theorem f_R_expectsAll_eq (I : Inv (r.2 1)) (hN : 40 < N) : f_R_expectsAll N g r = some (lsM (r.2 1) (fun l => exM (r.2 1) l (if g = -1 then leM (exM (r.2 1) l) else g))) := by
  have h3 := I.b3
  unfold f_R_expectsAll lsM
  refine lp_run (F := fun fuel k z => f_R_expectsAll_4 N g r fuel z (iN k)) (f := fun k z => z + poM (r.2 1) (iN k) * exM (r.2 1) (iN k) (if g = -1 then leM (exM (r.2 1) (iN k)) else g)) (fin := fun z => some z) (n := cn (r.2 1) 3) (fun fuel z => ?_) (fun fuel k z hk => ?_) _ 0 0 N (by omega) (by omega)
  · rw [f_R_expectsAll_4, rlm3, ob, I.n3, if_pos (i_le_rfl _)]
  · rw [f_R_expectsAll_4, rlm3, ob, I.n3, if_neg (iN_nle hk (by omega)), f_R_peopleOf_eq I hN, ob]
    unfold f_R_expectsAll_36
    by_cases h : g = -1
    · rw [if_pos h, if_pos h, f_R_bestOf_eq I hN, ob, f_R_expects_eq I (by omega), ob, iN_s]
    · rw [if_neg h, if_neg h, f_R_expects_eq I (by omega), ob, iN_s]
/-! costs are small -/
theorem abs_4 : ∀ a b : Fin 4, ∃ d : Fin 4, absI (iN (a.val + 1) - iN (b.val + 1)) = iN d.val := by decide +kernel
theorem costM_nb {gx gy : Int32} (I : Inv m) (hg : nx gx 32) (hh : nx gy 32) : nb (costM m gx gy) 400 := by
  obtain ⟨⟨p1, h1, e1⟩, ⟨p2, h2, e2⟩, ⟨p3, h3, e3⟩⟩ := I.pr
  obtain ⟨u, hu, rfl⟩ := hg
  obtain ⟨w, hw, rfl⟩ := hh
  unfold costM costP
  rw [e1, e2, e3]
  by_cases c1 : iN u >>> (3 &&& 31) = iN w >>> (3 &&& 31)
  · rw [if_pos c1]
    by_cases c2 : iN u >>> (3 &&& 31) = 2
    · rw [if_pos c2]
      have q1 := cnt_all ⟨u, hu⟩
      have q2 := cnt_all ⟨w, hw⟩
      have q1 : cntI (iN u) = iN (u / 2 % 4 + 1) := q1
      have q2 : cntI (iN w) = iN (w / 2 % 4 + 1) := q2
      obtain ⟨d, hd⟩ := abs_4 ⟨u / 2 % 4, Nat.mod_lt _ (by decide)⟩ ⟨w / 2 % 4, Nat.mod_lt _ (by decide)⟩
      have hd : absI (iN (u / 2 % 4 + 1) - iN (w / 2 % 4 + 1)) = iN d.val := hd
      have hm : p2 * d.val ≤ 99 * 3 := Nat.mul_le_mul h2 (by have := d.isLt; omega)
      rw [q1, q2, hd, iN_mul]
      by_cases c3 : iN u &&& 1 = iN w &&& 1
      · rw [if_pos c3, Int32.add_zero]
        exact ⟨_, by omega, rfl⟩
      · rw [if_neg c3, iN_add]
        exact ⟨_, by omega, rfl⟩
    · rw [if_neg c2]
      exact ⟨0, by decide, rfl⟩
  · rw [if_neg c1]
    exact ⟨p1, by omega, rfl⟩
theorem lp_nb {f : Nat → Int32 → Int32} {n e : Nat} (h : ∀ (k : Nat) (z : Int32) (b : Nat), k < n → nb z b → nb (f k z) (b + e)) : ∀ (j k : Nat) (z : Int32) (b : Nat), k + j ≤ n → nb z b → nb (lp f j k z) (b + e * j) := by
  intro j
  induction j with
  | zero => intro k z b _ hz; exact hz
  | succ j ih =>
    intro k z b hk hz
    have h1 := ih (k + 1) (f k z) (b + e) (by omega) (h k z b (by omega) hz)
    rw [show b + e + e * j = b + e * (j + 1) by rw [Nat.mul_succ]; omega] at h1
    exact h1
theorem exM_nb (I : Inv m) {l g : Int32} (hg : nx g 32) : nb (exM m l g) 86400 := by
  have h4 := I.b4
  obtain ⟨c, hc, e⟩ := lp_nb (f := exS m l g) (n := cn m 4) (e := 3600) (fun k z b hk hz => by
    obtain ⟨c, hc, rfl⟩ := hz
    unfold exS
    by_cases h1 : m (20 + 3 * k) = l
    · obtain ⟨-, h2, ⟨w, hw, ew⟩, -⟩ := I.hb hk
      obtain ⟨u, hu, eu⟩ := costM_nb I hg h2
      have hm : w * u ≤ 9 * 400 := Nat.mul_le_mul hw hu
      rw [if_pos h1, ew, eu, iN_mul, iN_add]
      exact ⟨_, by omega, rfl⟩
    · rw [if_neg h1]
      exact ⟨c, by omega, rfl⟩) (cn m 4) 0 0 0 (by omega) ⟨0, Nat.le_refl _, rfl⟩
  exact ⟨c, by omega, e⟩
theorem suM_nb (I : Inv m) {E : Int32 → Int32} {e : Nat} (hE : ∀ l, nb (E l) e) : nb (suM m E) (10 * e) := by
  have h5 := I.b5
  obtain ⟨c, hc, e1⟩ := lp_nb (f := fun k z => z + E (pC m k 0)) (n := cn m 5) (e := e) (fun k z b hk hz => by
    obtain ⟨c, hc, rfl⟩ := hz
    obtain ⟨u, hu, eu⟩ := hE (pC m k 0)
    show nb (iN c + E (pC m k 0)) (b + e)
    rw [eu, iN_add]
    exact ⟨_, by omega, rfl⟩) (cn m 5) 0 0 0 (by omega) ⟨0, Nat.le_refl _, rfl⟩
  have h9 : e * cn m 5 ≤ e * 10 := Nat.mul_le_mul_left e h5
  exact ⟨c, by omega, e1⟩
def miS (E : Int32 → Int32) (k : Nat) (z : Int32) : Int32 := if E (iN k) < z then E (iN k) else z
theorem mi_0 {E : Int32 → Int32} (h : nb (E 0) 864000) : miS E 0 1000000000 = E 0 := by
  obtain ⟨c, hc, e⟩ := h
  unfold miS
  have h2 : E (iN 0) < 1000000000 := by
    rw [show E (iN 0) = E 0 from rfl, e]
    exact iN_ylt (n := 1000000000) (by omega) (by decide)
  rw [if_pos h2]
  rfl
theorem op_worth (G : GS N x o ps ys M r) (hN : 20000 ≤ N) : ∃ v q, f_CT_worth N x M = some v ∧ f_R_worth N r = some (v, q) ∧ GS N x o ps ys M q := by
  have I := G.I
  have h5 := I.b5
  have I0 : Inv ((r_set r 0 0).2 1) := G.I
  have wv : ∀ g : Int32, g ≠ -1 → f_R_expectsAll N g (r_set r 0 0) = some (suM (r.2 1) (fun l => exM (r.2 1) l g)) := fun g hg => by
    rw [f_R_expectsAll_eq I0 (by omega), su_ls I]
    show some (lsM (r.2 1) (fun l => exM (r.2 1) l (if g = -1 then leM (exM (r.2 1) l) else g))) = _
    exact congrArg some (congrArg _ (funext fun l => by rw [if_neg hg]))
  have wb : f_R_expectsAll N (-1) (r_set r 0 0) = some (suM (r.2 1) (fun l => exM (r.2 1) l (leM (exM (r.2 1) l)))) := by
    rw [f_R_expectsAll_eq I0 (by omega), su_ls I]
    rfl
  have fin : ∀ z : Int32, f_CT_worth_35 N x M N z 0 0 = some (z - suM (r.2 1) (fun l => exM (r.2 1) l (leM (exM (r.2 1) l)))) := fun z => by
    unfold suM
    refine lp_run (F := fun fuel k w => f_CT_worth_35 N x M fuel z w (iN k)) (f := fun k w => w + exM (r.2 1) (pC (r.2 1) k 0) (leM (exM (r.2 1) (pC (r.2 1) k 0)))) (fin := fun w => some (z - w)) (n := cn (r.2 1) 5) (fun fuel w => ?_) (fun fuel k w hk => ?_) _ 0 0 N (by omega) (by omega)
    · rw [f_CT_worth_35, G.A.gN, ob, G.S.i0, ob, G.R.v5, I.n5, if_pos (i_le_rfl _)]
    · rw [f_CT_worth_35, G.A.gN, ob, G.S.i0, ob, G.R.v5, I.n5, if_neg (iN_nle hk (by omega)), ob, G.S.g_people, ob, G.S.g_person (by omega), ob, G.S.iP (by omega), ob, ob, G.S.g_lands, ob, ob, G.S.g_lands, ob, G.S.c1, ob, G.R.q0 I hk, f_Lands_bestIn_eq G.S I G.R (by omega), ob, ob, f_Lands_expectedOf_eq G.S I G.R (by omega), ob, iN_s]
  refine ⟨lp (miS (fun g => suM (r.2 1) (fun l => exM (r.2 1) l g))) 31 1 (suM (r.2 1) (fun l => exM (r.2 1) l 0)) - suM (r.2 1) (fun l => exM (r.2 1) l (leM (exM (r.2 1) l))), r_set r 0 0, ?_, ?_, G.th 0⟩
  · unfold f_CT_worth
    have h := lp_run (F := fun fuel k z => f_CT_worth_6 N x M fuel z (iN k)) (f := miS (fun g => suM (r.2 1) (fun l => exM (r.2 1) l g))) (fin := fun z => some (z - suM (r.2 1) (fun l => exM (r.2 1) l (leM (exM (r.2 1) l))))) (n := 32) (fun fuel z => by
      show f_CT_worth_6 N x M (fuel + 1) z (iN 32) = _
      rw [f_CT_worth_6, if_pos (show (32 : Int32) ≤ iN 32 from i_le_rfl _), fin]) (fun fuel k z hk => by
      show f_CT_worth_6 N x M (fuel + 1) z (iN k) = f_CT_worth_6 N x M fuel (miS (fun g => suM (r.2 1) (fun l => exM (r.2 1) l g)) k z) (iN (k + 1))
      rw [f_CT_worth_6, if_neg (l32 hk), G.A.gN, ob, G.S.c0, ob, f_Town_expectedByAll_eq G.S I G.R (by omega), ob, min_eq, ob, iN_s]
      rfl) 32 0 1000000000 N (by omega) (by omega)
    refine h.trans ?_
    show some (lp (miS (fun g => suM (r.2 1) (fun l => exM (r.2 1) l g))) 31 1 (miS (fun g => suM (r.2 1) (fun l => exM (r.2 1) l g)) 0 1000000000) - _) = _
    rw [mi_0 (E := fun g => suM (r.2 1) (fun l => exM (r.2 1) l g)) (suM_nb I (e := 86400) fun l => exM_nb I ⟨0, by decide, rfl⟩)]
  · unfold f_R_worth
    rw [wv 0 (by decide), ob]
    exact lp_run (F := fun fuel k z => f_R_worth_13 N fuel z (iN k) (r_set r 0 0)) (f := miS (fun g => suM (r.2 1) (fun l => exM (r.2 1) l g))) (fin := fun z => some (z - suM (r.2 1) (fun l => exM (r.2 1) l (leM (exM (r.2 1) l))), r_set r 0 0)) (n := 32) (fun fuel z => by
      show f_R_worth_13 N (fuel + 1) z (iN 32) (r_set r 0 0) = _
      rw [f_R_worth_13, if_pos (show (32 : Int32) ≤ iN 32 from i_le_rfl _), wb, ob]) (fun fuel k z hk => by
      show f_R_worth_13 N (fuel + 1) z (iN k) (r_set r 0 0) = f_R_worth_13 N fuel (miS (fun g => suM (r.2 1) (fun l => exM (r.2 1) l g)) k z) (iN (k + 1)) (r_set r 0 0)
      rw [f_R_worth_13, if_neg (l32 hk), wv (iN k) (iN_m1 (by omega)), ob, lesser_eq, ob, iN_s]
      rfl) 31 1 _ N (by omega) (by omega)
end Wo
