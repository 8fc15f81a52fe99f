section Ci
variable {N x o t B n p k w i s : Nat} {ps ys zs : Nat → Nat} {M K L : Mem} {r q : Rho} {a b g u v : Int32} {m m2 m0 : Nat → Int32}
theorem y25 (h : k < 100) : rld r 25 (iN k) = some (r.2 25 k) := rld_iN (j := 25) h
theorem yw25 {v : Int32} (h : k < 100) : rst r 25 (iN k) v = some (r_st r 25 k v) := rst_iN (j := 25) h
theorem side_md {k41 : Int32 → Int32 → Int32 → Rho → Option (Int32 × Rho)} {c d f : Nat} (hi : i < 60) (hs : s < 2) (hc : c < 10) (hd : d < 10) (e1 : lgc (q.2 1) i (1 + s) = iN c) (e2 : lgc (q.2 1) i (2 - s) = iN d) :
    f_R_changed_49 N a k41 (f + 1) u v (iN i) (iN s) q = f_R_changed_49 N a k41 f (if q.2 25 (10 * c + d) ≠ -1 ∧ q.2 25 (10 * c + d) ≠ lgc (q.2 1) i (3 + s) then u ||| ((1 : Int32) <<< (iN c &&& 31)) else u) (if q.2 25 (10 * c + d) ≠ -1 ∧ q.2 25 (10 * c + d) ≠ lgc (q.2 1) i (3 + s) then v + 1 else v) (iN i) (iN (s + 1)) (r_st q 25 (10 * c + d) (lgc (q.2 1) i (3 + s))) := by
  rw [f_R_changed_49, if_neg (show ¬ (2 : Int32) ≤ iN s from iN_nle (n := 2) hs (by decide)), show (1 : Int32) + iN s = iN (1 + s) from iN_add 1 s, show (2 : Int32) - iN s = iN (2 - s) from iN_sub (a := 2) (by omega), show (3 : Int32) + iN s = iN (3 + s) from iN_add 3 s, f_R_logged_eq hi (by omega), ob, f_R_logged_eq hi (by omega), ob, f_R_logged_eq hi (by omega), ob, e1, e2, show ((10 : Int32) * iN c) + iN d = iN (10 * c + d) by rw [show (10 : Int32) = iN 10 from rfl, iN_mul, iN_add], y25 (by omega), ob]
  have fin : ∀ u v, f_R_changed_130 N a k41 (f_R_changed_49 N a k41 f) u v (iN i) (iN s) (iN (10 * c + d)) (lgc (q.2 1) i (3 + s)) q = f_R_changed_49 N a k41 f u v (iN i) (iN (s + 1)) (r_st q 25 (10 * c + d) (lgc (q.2 1) i (3 + s))) := fun u v => by
    unfold f_R_changed_130
    rw [yw25 (by omega), ob, iN_s]
  rw [fin, fin]
  by_cases h1 : q.2 25 (10 * c + d) = -1
  · have h2 : ¬ (q.2 25 (10 * c + d) ≠ -1 ∧ q.2 25 (10 * c + d) ≠ lgc (q.2 1) i (3 + s)) := fun w => w.1 h1
    rw [if_pos h1, if_neg h2, if_neg h2]
  · rw [if_neg h1, ob]
    by_cases h3 : q.2 25 (10 * c + d) = lgc (q.2 1) i (3 + s)
    · have h2 : ¬ (q.2 25 (10 * c + d) ≠ -1 ∧ q.2 25 (10 * c + d) ≠ lgc (q.2 1) i (3 + s)) := fun w => w.2 h3
      rw [if_pos h3, if_neg h2, if_neg h2]
    · have h2 : q.2 25 (10 * c + d) ≠ -1 ∧ q.2 25 (10 * c + d) ≠ lgc (q.2 1) i (3 + s) := ⟨h1, h3⟩
      rw [if_neg h3, if_pos h2, if_pos h2]
/-- the first row from k on of these two -/
def fjN (m : Nat → Int32) (n c d k : Nat) : Nat := srB (fun j => decide (lgc m j 1 = iN c ∧ lgc m j 2 = iN d)) (n - k) k
theorem fjN_s {c d : Nat} (hk : k < n) : fjN m n c d k = if lgc m k 1 = iN c ∧ lgc m k 2 = iN d then k else fjN m n c d (k + 1) := by
  unfold fjN
  rw [show n - k = (n - (k + 1)) + 1 by omega]
  show (if decide (lgc m k 1 = iN c ∧ lgc m k 2 = iN d) = true then k else _) = _
  by_cases h : lgc m k 1 = iN c ∧ lgc m k 2 = iN d
  · rw [if_pos (decide_eq_true h), if_pos h]
  · have h2 : ¬ decide (lgc m k 1 = iN c ∧ lgc m k 2 = iN d) = true := by rw [decide_eq_true_eq]; exact h
    rw [if_neg h2, if_neg h]
def bgV (m : Nat → Int32) (n c d k w : Nat) : Int32 := if fjN m n c d k < n then lgc m (fjN m n c d k) w else -1
def BG (m : Nat → Int32) (n k : Nat) (q : Rho) : Prop := ∀ c d, c < d → d < 10 → q.2 25 (10 * c + d) = bgV m n c d k 3 ∧ q.2 25 (10 * d + c) = bgV m n c d k 4
theorem chC_bg {c d : Nat} (I : Inv m) (hi : i < cn m 12) (e1 : lgc m i 1 = iN c) (e2 : lgc m i 2 = iN d) (hw : w = 3 ∨ w = 4) : (bgV m (cn m 12) c d (i + 1) w ≠ -1 ∧ bgV m (cn m 12) c d (i + 1) w ≠ lgc m i w) ↔ chC m (cn m 12) w i = true := by
  have e : bfN m (cn m 12) i = fjN m (cn m 12) c d (i + 1) := by
    unfold bfN fjN
    rw [e1, e2]
  unfold chC bgV
  rw [e, decide_eq_true_eq]
  by_cases h : fjN m (cn m 12) c d (i + 1) < cn m 12
  · rw [if_pos h]
    obtain ⟨-, ⟨u1, h1, f1⟩, ⟨u2, h2, f2⟩⟩ := I.2.2.2.1.2 _ h
    have hne : lgc m (fjN m (cn m 12) c d (i + 1)) w ≠ -1 := by
      rcases hw with rfl | rfl
      · rw [f1]; exact iN_m1 (by omega)
      · rw [f2]; exact iN_m1 (by omega)
    exact ⟨fun q => ⟨h, fun w => q.2 w.symm⟩, fun q => ⟨hne, fun w => q.2 w.symm⟩⟩
  · rw [if_neg h]
    exact ⟨fun q => absurd rfl q.1, fun q => absurd q.1 h⟩
/-- one row more -/
theorem row_md {k41 : Int32 → Int32 → Int32 → Rho → Option (Int32 × Rho)} {c d f : Nat} (I : Inv m) (hi : i < cn m 12) (em : q.2 1 = m) (hcd : c < d) (hd : d < 10) (e1 : lgc m i 1 = iN c) (e2 : lgc m i 2 = iN d) (hb : BG m (cn m 12) (i + 1) q) :
    ∃ q2, f_R_changed_49 N a k41 (f + 3) u v (iN i) 0 q = k41 (if chC m (cn m 12) 4 i = true then (if chC m (cn m 12) 3 i = true then u ||| ((1 : Int32) <<< (iN c &&& 31)) else u) ||| ((1 : Int32) <<< (iN d &&& 31)) else (if chC m (cn m 12) 3 i = true then u ||| ((1 : Int32) <<< (iN c &&& 31)) else u)) (if chC m (cn m 12) 4 i = true then (if chC m (cn m 12) 3 i = true then v + 1 else v) + 1 else (if chC m (cn m 12) 3 i = true then v + 1 else v)) (iN i + (-1)) q2 ∧ S0 q q2 ∧ BG m (cn m 12) i q2 ∧ q2.1 0 = q.1 0 := by
  have h12 := I.b12
  obtain ⟨b1, b2⟩ := hb c d hcd hd
  refine ⟨r_st (r_st q 25 (10 * c + d) (lgc m i 3)) 25 (10 * d + c) (lgc m i 4), ?_, ⟨⟨?_, ?_, ?_, ?_⟩, rfl, rfl, rfl, rfl, id⟩, fun c2 d2 hcd2 hd2 => ?_, rfl⟩
  · have t1 := side_md (N := N) (a := a) (k41 := k41) (q := q) (u := u) (v := v) (i := i) (s := 0) (c := c) (d := d) (f := f + 2) (by omega) (by decide) (by omega) hd (by rw [em]; exact e1) (by rw [em]; exact e2)
    rw [em, b1] at t1
    have em2 : (r_st q 25 (10 * c + d) (lgc m i 3)).2 1 = m := (rst_ne (by decide)).trans em
    have ev : (r_st q 25 (10 * c + d) (lgc m i 3)).2 25 (10 * d + c) = bgV m (cn m 12) c d (i + 1) 4 := by
      rw [rst_own, if_neg (by omega)]; exact b2
    have t2 := fun u v => side_md (N := N) (a := a) (k41 := k41) (q := r_st q 25 (10 * c + d) (lgc m i 3)) (u := u) (v := v) (i := i) (s := 1) (c := d) (d := c) (f := f + 1) (by omega) (by decide) hd (by omega) (by rw [em2]; exact e2) (by rw [em2]; exact e1)
    simp only [em2, ev] at t2
    refine t1.trans ?_
    refine (t2 _ _).trans ?_
    rw [f_R_changed_49, if_pos (show (2 : Int32) ≤ iN (1 + 1) by decide)]
    have c3 := chC_bg (w := 3) I hi e1 e2 (Or.inl rfl)
    have c4 := chC_bg (w := 4) I hi e1 e2 (Or.inr rfl)
    simp only [show 3 + 0 = 3 from rfl, show 3 + 1 = 4 from rfl, c3, c4]
  · rw [rst_ne (by decide), rst_ne (by decide)]
  · rw [rst_ne (by decide), rst_ne (by decide)]
  · rw [rst_ne (by decide), rst_ne (by decide)]
  · rw [rst_ne (by decide), rst_ne (by decide)]
  · obtain ⟨f1, f2⟩ := hb c2 d2 hcd2 hd2
    rw [rst_own, rst_own, rst_own, rst_own]
    unfold bgV
    rw [fjN_s hi, e1, e2]
    by_cases h : c = c2 ∧ d = d2
    · obtain ⟨rfl, rfl⟩ := h
      rw [if_pos (And.intro rfl rfl), if_pos hi, if_neg (by omega), if_pos rfl, if_pos rfl, if_pos hi]
      exact ⟨rfl, rfl⟩
    · have h2 : ¬ (iN c = iN c2 ∧ iN d = iN d2) := fun w => h ⟨(iN_inj (by omega) (by omega)).mp w.1, (iN_inj (by omega) (by omega)).mp w.2⟩
      have n1 : ¬ 10 * c2 + d2 = 10 * d + c := by omega
      have n2 : ¬ 10 * c2 + d2 = 10 * c + d := by omega
      have n3 : ¬ 10 * d2 + c2 = 10 * d + c := by omega
      have n4 : ¬ 10 * d2 + c2 = 10 * c + d := by omega
      rw [if_neg h2, if_neg n1, if_neg n2, if_neg n3, if_neg n4]
      exact ⟨f1, f2⟩
theorem changed_md (I : Inv (r.2 1)) (hN : 200 < N) (a : Int32) : ∃ z q, chS (r.2 1) (cn (r.2 1) 12) z (fun _ => True) ∧ f_R_changed N a r = some (if a = 0 then z else iN (ctB (chC (r.2 1) (cn (r.2 1) 12) 3) (cn (r.2 1) 12) + ctB (chC (r.2 1) (cn (r.2 1) 12) 4) (cn (r.2 1) 12)), q) ∧ S0 r q := by
  have h12 := I.b12
  have l3 := ctB_le (chC (r.2 1) (cn (r.2 1) 12) 3) (cn (r.2 1) 12)
  have l4 := ctB_le (chC (r.2 1) (cn (r.2 1) 12) 4) (cn (r.2 1) 12)
  have key : ∀ (k fuel : Nat) (u : Int32) (c : Nat) (q : Rho), k ≤ cn (r.2 1) 12 → k < fuel → S0 r q → BG (r.2 1) (cn (r.2 1) 12) k q → chS (r.2 1) (cn (r.2 1) 12) u (fun j => k ≤ j) → c + (ctB (chC (r.2 1) (cn (r.2 1) 12) 3) k + ctB (chC (r.2 1) (cn (r.2 1) 12) 4) k) = ctB (chC (r.2 1) (cn (r.2 1) 12) 3) (cn (r.2 1) 12) + ctB (chC (r.2 1) (cn (r.2 1) 12) 4) (cn (r.2 1) 12) → ∃ z q2, chS (r.2 1) (cn (r.2 1) 12) z (fun _ => True) ∧ f_R_changed_41 N a fuel u (iN c) (iN k - 1) q = some (if a = 0 then z else iN (ctB (chC (r.2 1) (cn (r.2 1) 12) 3) (cn (r.2 1) 12) + ctB (chC (r.2 1) (cn (r.2 1) 12) 4) (cn (r.2 1) 12)), q2) ∧ S0 r q2 := by
    intro k
    induction k with
    | zero =>
      intro fuel u c q hk hf s hb hu hc
      obtain ⟨fu, rfl⟩ : ∃ fu, fuel = fu + 1 := ⟨fuel - 1, by omega⟩
      refine ⟨u, q, fun i hi => (hu i hi).trans ⟨fun ⟨j, q1, _, q3⟩ => ⟨j, q1, trivial, q3⟩, fun ⟨j, q1, _, q3⟩ => ⟨j, q1, Nat.zero_le _, q3⟩⟩, ?_, s⟩
      rw [f_R_changed_41, if_pos (show iN 0 - 1 < 0 by decide)]
      have : c = ctB (chC (r.2 1) (cn (r.2 1) 12) 3) (cn (r.2 1) 12) + ctB (chC (r.2 1) (cn (r.2 1) 12) 4) (cn (r.2 1) 12) := hc
      by_cases h : a = 0
      · rw [if_pos h, if_pos h]
      · rw [if_neg h, if_neg h, this]
    | succ k ih =>
      intro fuel u c q hk hf s hb hu hc
      obtain ⟨fu, rfl⟩ : ∃ fu, fuel = fu + 1 := ⟨fuel - 1, by omega⟩
      obtain ⟨p, d, hpd, hd, e1, e2⟩ := I.lg (k := k) (by omega)
      have em : q.2 1 = r.2 1 := s.1.1
      obtain ⟨f3, hf3⟩ : ∃ f3, N = f3 + 3 := ⟨N - 3, by omega⟩
      obtain ⟨q2, m2, s2, hb2, -⟩ := row_md (N := N) (a := a) (k41 := f_R_changed_41 N a fu) (f := f3) (u := u) (v := iN c) (q := q) I (show k < cn (r.2 1) 12 by omega) em hpd hd e1 e2 hb
      rw [← hf3] at m2
      rw [show iN (k + 1) - 1 = iN k from iN_sub (a := k + 1) (b := 1) (by omega), f_R_changed_41, if_neg (iN_nn (by omega)), m2, show iN k + (-1) = iN k - 1 from (Int32.sub_eq_add_neg _ _).symm]
      have cnt : (if chC (r.2 1) (cn (r.2 1) 12) 4 k = true then (if chC (r.2 1) (cn (r.2 1) 12) 3 k = true then iN c + 1 else iN c) + 1 else (if chC (r.2 1) (cn (r.2 1) 12) 3 k = true then iN c + 1 else iN c)) = iN (c + ((if chC (r.2 1) (cn (r.2 1) 12) 3 k = true then 1 else 0) + (if chC (r.2 1) (cn (r.2 1) 12) 4 k = true then 1 else 0))) := by
        cases chC (r.2 1) (cn (r.2 1) 12) 3 k <;> cases chC (r.2 1) (cn (r.2 1) 12) 4 k <;> simp only [if_true, if_false, iN_s, Bool.false_eq_true, Nat.add_zero, Nat.zero_add, Nat.add_assoc, Nat.reduceAdd]
      rw [cnt]
      refine ih fu _ _ q2 (by omega) (by omega) (s.trans s2) hb2 (fun i hi => ?_) ?_
      · have split : (∃ j, j < cn (r.2 1) 12 ∧ k ≤ j ∧ ((chC (r.2 1) (cn (r.2 1) 12) 3 j = true ∧ lgc (r.2 1) j 1 = iN i) ∨ (chC (r.2 1) (cn (r.2 1) 12) 4 j = true ∧ lgc (r.2 1) j 2 = iN i))) ↔ (∃ j, j < cn (r.2 1) 12 ∧ k + 1 ≤ j ∧ ((chC (r.2 1) (cn (r.2 1) 12) 3 j = true ∧ lgc (r.2 1) j 1 = iN i) ∨ (chC (r.2 1) (cn (r.2 1) 12) 4 j = true ∧ lgc (r.2 1) j 2 = iN i))) ∨ ((chC (r.2 1) (cn (r.2 1) 12) 3 k = true ∧ i = p) ∨ (chC (r.2 1) (cn (r.2 1) 12) 4 k = true ∧ i = d)) := by
          constructor
          · rintro ⟨j, q1, q2, q3⟩
            by_cases hjk : j = k
            · subst hjk
              refine Or.inr (q3.imp (fun q => ⟨q.1, ?_⟩) fun q => ⟨q.1, ?_⟩)
              · rw [e1] at q; exact ((iN_inj (by omega) (by omega)).mp q.2).symm
              · rw [e2] at q; exact ((iN_inj (by omega) (by omega)).mp q.2).symm
            · exact Or.inl ⟨j, q1, by omega, q3⟩
          · rintro (⟨j, q1, q2, q3⟩ | q3)
            · exact ⟨j, q1, by omega, q3⟩
            · exact ⟨k, by omega, Nat.le_refl k, q3.imp (fun q => ⟨q.1, by rw [e1, q.2]⟩) fun q => ⟨q.1, by rw [e2, q.2]⟩⟩
        refine Iff.trans ?_ split.symm
        rw [← hu i hi]
        cases chC (r.2 1) (cn (r.2 1) 12) 3 k <;> cases chC (r.2 1) (cn (r.2 1) 12) 4 k <;> simp [ib_or, ib_shl (show p < 32 by omega), ib_shl (show d < 32 by omega), or_assoc]
      · rw [ctB_s, ctB_s] at hc
        omega
  unfold f_R_changed
  refine lp_inv (F := fun fuel k z => f_R_changed_7 N a fuel (iN k) z) (n := 100) (P := fun k z => S0 r z ∧ ∀ j, j < k → z.2 25 j = -1) (Q := fun t => ∃ z q, chS (r.2 1) (cn (r.2 1) 12) z (fun _ => True) ∧ t = some (if a = 0 then z else iN (ctB (chC (r.2 1) (cn (r.2 1) 12) 3) (cn (r.2 1) 12) + ctB (chC (r.2 1) (cn (r.2 1) 12) 4) (cn (r.2 1) 12)), q) ∧ S0 r q) (fun fuel z hz => ?_) (fun fuel k z hk hz => ?_) 100 0 (r_set r 0 0) N (by omega) (by omega) ⟨S0.thr r 0, fun j hj => absurd hj (Nat.not_lt_zero j)⟩
  · have em : z.2 1 = r.2 1 := hz.1.1.1
    rw [f_R_changed_7, if_pos (show (100 : Int32) ≤ iN 100 from i_le_rfl _), rlm12, ob, em, I.n12]
    refine key (cn (r.2 1) 12) N 0 0 z (Nat.le_refl _) (by omega) hz.1 (fun c d hcd hd => ?_) (fun i hi => ⟨fun h => (by rw [ib_0] at h; exact Bool.noConfusion h), fun ⟨j, q1, q2, _⟩ => by omega⟩) (Nat.zero_add _)
    have e : fjN (r.2 1) (cn (r.2 1) 12) c d (cn (r.2 1) 12) = cn (r.2 1) 12 := by
      unfold fjN
      rw [Nat.sub_self]
      rfl
    unfold bgV
    rw [e, if_neg (Nat.lt_irrefl _), hz.2 _ (by omega), hz.2 _ (by omega)]
    exact ⟨rfl, (if_neg (Nat.lt_irrefl _)).symm⟩
  · refine ⟨r_st z 25 k (-1), ?_, hz.1.trans ⟨⟨rst_ne (by decide), rst_ne (by decide), rst_ne (by decide), rst_ne (by decide)⟩, rfl, rfl, rfl, rfl, id⟩, fun j hj => ?_⟩
    · rw [f_R_changed_7, if_neg (show ¬ (100 : Int32) ≤ iN k from iN_nle (n := 100) hk (by decide)), yw25 hk, ob, iN_s]
    · rw [rst_own]
      by_cases h : j = k
      · rw [if_pos h]
      · rw [if_neg h]; exact hz.2 j (by omega)
theorem op_changed (G : GS N x o ps ys M r) (hN : 20000 ≤ N) : ∃ v q, f_CT_changed N x a M = some v ∧ f_R_changed N a r = some (v, q) ∧ GS N x o ps ys M q := by
  obtain ⟨z1, h1, c1⟩ := changed_cl G (by omega) a
  obtain ⟨z2, q, h2, m2, s2⟩ := changed_md (r := r) (N := N) G.I (by omega) a
  have e : z1 = z2 := ib_ext fun i hi => Bool.eq_iff_iff.mpr ((h1 i hi).trans (h2 i hi).symm)
  rw [← e] at m2
  exact ⟨_, q, c1, m2, G.s0 s2⟩
end Ci
