section Ym
variable {N n p k : Nat} {r q : Rho} {fr ow : Nat → Int32} {a g : Int32} {m : Nat → Int32}
theorem rst_own (r : Rho) (j k : Nat) (v : Int32) (i : Nat) : (r_st r j k v).2 j i = if i = k then v else r.2 j i := by
  show (if j = j ∧ i = k then v else r.2 j i) = _
  by_cases h : i = k
  · rw [if_pos ⟨rfl, h⟩, if_pos h]
  · rw [if_neg (fun q => h q.2), if_neg h]
theorem rst_ne {r : Rho} {j k l : Nat} {v : Int32} (h : l ≠ j) : (r_st r j k v).2 l = r.2 l := by
  funext i
  exact if_neg fun q => h q.1
theorem y18 (h : k < 10) : rld r 18 (iN k) = some (r.2 18 k) := rld_iN (j := 18) h
theorem y19 (h : k < 10) : rld r 19 (iN k) = some (r.2 19 k) := rld_iN (j := 19) h
theorem y20 (h : k < 10) : rld r 20 (iN k) = some (r.2 20 k) := rld_iN (j := 20) h
theorem y21 (h : k < 32) : rld r 21 (iN k) = some (r.2 21 k) := rld_iN (j := 21) h
theorem yw18 {v : Int32} (h : k < 10) : rst r 18 (iN k) v = some (r_st r 18 k v) := rst_iN (j := 18) h
theorem yw19 {v : Int32} (h : k < 10) : rst r 19 (iN k) v = some (r_st r 19 k v) := rst_iN (j := 19) h
theorem yw20 {v : Int32} (h : k < 10) : rst r 20 (iN k) v = some (r_st r 20 k v) := rst_iN (j := 20) h
theorem yw21 {v : Int32} (h : k < 32) : rst r 21 (iN k) v = some (r_st r 21 k v) := rst_iN (j := 21) h
theorem sh1 {o : Nat} (ho : o < 32) (v : Int32) : (v >>> (iN o &&& 31)) &&& 1 = b01 (ib v o) := by
  by_cases h : ib v o = true
  · rw [(isIn_iff ho v).mpr h, h]; rfl
  · have h2 : ib v o = false := Bool.eq_false_iff.mpr h
    rw [h2]
    refine ib_ext fun k _ => ?_
    rw [ib_and, ib_1, show b01 false = 0 from rfl, ib_0]
    by_cases hk : k = 0
    · rw [hk, ib_sar ho, h2]; rfl
    · rw [decide_eq_false hk, Bool.and_false]
/-- the same, but for the votes -/
def Vq (r q : Rho) : Prop := q.1 = r.1 ∧ ∀ j, j ≠ 21 → q.2 j = r.2 j
/-- the same, but for what years work on -/
def Yq (r q : Rho) : Prop := q.1 = r.1 ∧ ∀ j, j ≠ 18 → j ≠ 19 → j ≠ 20 → j ≠ 21 → q.2 j = r.2 j
theorem Vq.st {v : Int32} (h : Vq r q) : Vq r (r_st q 21 k v) := ⟨h.1, fun j hj => (rst_ne hj).trans (h.2 j hj)⟩
theorem Yq.refl (r : Rho) : Yq r r := ⟨rfl, fun _ _ _ _ _ => rfl⟩
theorem Yq.trans {s : Rho} (h : Yq r q) (k : Yq q s) : Yq r s := ⟨k.1.trans h.1, fun j a b c d => (k.2 j a b c d).trans (h.2 j a b c d)⟩
theorem Vq.y (h : Vq r q) : Yq r q := ⟨h.1, fun j _ _ _ d => h.2 j d⟩
theorem Yq.st {j : Nat} {v : Int32} (hj : j = 18 ∨ j = 19 ∨ j = 20 ∨ j = 21) (h : Yq r q) : Yq r (r_st q j k v) := ⟨h.1, fun l a b c d => (rst_ne (by rcases hj with rfl | rfl | rfl | rfl <;> assumption)).trans (h.2 l a b c d)⟩
theorem Yq.s0 (h : Yq r q) : S0 r q := by
  refine ⟨⟨h.2 1 (by decide) (by decide) (by decide) (by decide), h.2 2 (by decide) (by decide) (by decide) (by decide), h.2 5 (by decide) (by decide) (by decide) (by decide), h.2 7 (by decide) (by decide) (by decide) (by decide)⟩, ?_, ?_, ?_, ?_, fun z => ?_⟩
  · rw [h.1]
  · rw [h.1]
  · rw [h.1]
  · rw [h.1]
  · unfold Bz
    rw [h.1]
    exact z
theorem Yq.em (h : Yq r q) : q.2 1 = r.2 1 := h.2 1 (by decide) (by decide) (by decide) (by decide)
theorem takes_md (I : Inv (r.2 1)) (hN : 40 < N) (hp : p < 10) (hw : ∀ k, k < cn (r.2 1) 5 → nx (r.2 18 k) 32) (hw2 : nx (r.2 18 p) 32) : ∃ q, f_R_takes N (iN p) r = some (tkM (r.2 20 p) (r.2 18) (cn (r.2 1) 5) (r.2 18 p), q) ∧ Vq r q := by
  have h5 := I.b5
  have t72 : ∀ q, Vq r q → (∀ g, g < 32 → q.2 21 g = iN (vtN (r.2 20 p) (r.2 18) (cn (r.2 1) 5) (iN g))) → f_R_takes_72 N (iN p) N (r.2 18 p) 0 q = some (tkM (r.2 20 p) (r.2 18) (cn (r.2 1) 5) (r.2 18 p), q) := by
    intro q hq hv
    refine (lp_runP (F := fun fuel k z => f_R_takes_72 N (iN p) fuel z (iN k) q) (f := fun g z => if vtN (r.2 20 p) (r.2 18) (cn (r.2 1) 5) (iN g) ≤ vtN (r.2 20 p) (r.2 18) (cn (r.2 1) 5) z then z else iN g) (fin := fun z => some (z, q)) (n := 32) (P := fun _ z => nx z 32) (fun fuel z _ => ?_) (fun fuel k z hk hz => ?_) 32 0 _ N (by decide) (by omega) hw2).1
    · rw [f_R_takes_72, if_pos (show (32 : Int32) ≤ iN 32 from i_le_rfl _)]
    · obtain ⟨c, hc, rfl⟩ := hz
      have b1 := vtN_le (r.2 20 p) (r.2 18) (cn (r.2 1) 5) (iN k)
      have b2 := vtN_le (r.2 20 p) (r.2 18) (cn (r.2 1) 5) (iN c)
      rw [f_R_takes_72, if_neg (show ¬ (32 : Int32) ≤ iN k from iN_nle (n := 32) hk (by decide)), y21 hk, ob, y21 hc, ob, hv k hk, hv c hc, iN_s]
      by_cases h : vtN (r.2 20 p) (r.2 18) (cn (r.2 1) 5) (iN k) ≤ vtN (r.2 20 p) (r.2 18) (cn (r.2 1) 5) (iN c)
      · rw [if_pos (iN_yle h (by omega)), if_pos h]
        exact ⟨rfl, c, hc, rfl⟩
      · rw [if_neg (iN_nle (by omega) (by omega)), if_neg h]
        exact ⟨rfl, k, hk, rfl⟩
  have t23 : ∀ q, Vq r q → (∀ g, g < 32 → q.2 21 g = 0) → ∃ s, f_R_takes_23 N (iN p) N 0 q = some (tkM (r.2 20 p) (r.2 18) (cn (r.2 1) 5) (r.2 18 p), s) ∧ Vq r s := by
    intro q hq hv
    refine lp_inv (F := fun fuel k z => f_R_takes_23 N (iN p) fuel (iN k) z) (n := cn (r.2 1) 5) (P := fun k z => Vq r z ∧ ∀ g, g < 32 → z.2 21 g = iN (vtN (r.2 20 p) (r.2 18) k (iN g))) (Q := fun t => ∃ s, t = some (tkM (r.2 20 p) (r.2 18) (cn (r.2 1) 5) (r.2 18 p), s) ∧ Vq r s) (fun fuel z hz => ?_) (fun fuel k z hk hz => ?_) (cn (r.2 1) 5) 0 q N (by omega) (by omega) ⟨hq, fun g hg => hv g hg⟩
    · obtain ⟨z1, z2⟩ := hz
      refine ⟨z, ?_, z1⟩
      rw [f_R_takes_23, rlm5, ob, z1.2 1 (by decide), I.n5, if_pos (i_le_rfl _), y18 hp, ob, z1.2 18 (by decide)]
      exact t72 z z1 z2
    · obtain ⟨z1, z2⟩ := hz
      obtain ⟨c, hc, ec⟩ := hw k hk
      have b1 := vtN_le (r.2 20 p) (r.2 18) k (iN c)
      refine ⟨_, ?_, z1.st (k := c) (v := iN (vtN (r.2 20 p) (r.2 18) k (iN c)) + b01 (ib (r.2 20 p) k)), fun g hg => ?_⟩
      · rw [f_R_takes_23, rlm5, ob, z1.2 1 (by decide), I.n5, if_neg (iN_nle hk (by omega)), y18 (by omega), ob, z1.2 18 (by decide), ec, y21 hc, ob, y20 hp, ob, z1.2 20 (by decide), z2 c hc, sh1 (by omega), yw21 hc, ob, iN_s]
      · rw [rst_own, vtN_s, ec]
        by_cases hgc : g = c
        · subst hgc
          rw [if_pos rfl]
          by_cases hb : ib (r.2 20 p) k = true
          · rw [if_pos ⟨hb, rfl⟩, hb]
            exact iN_s _
          · rw [if_neg (fun q => hb q.1), Bool.eq_false_iff.mpr hb]
            exact Int32.add_zero _
        · rw [if_neg hgc, z2 g hg, if_neg]
          · rfl
          · intro q
            exact hgc ((iN_inj (by omega) (by omega)).mp q.2).symm
  unfold f_R_takes
  refine lp_inv (F := fun fuel k z => f_R_takes_2 N (iN p) fuel (iN k) z) (n := 32) (P := fun k z => Vq r z ∧ ∀ g, g < k → z.2 21 g = 0) (Q := fun t => ∃ s, t = some (tkM (r.2 20 p) (r.2 18) (cn (r.2 1) 5) (r.2 18 p), s) ∧ Vq r s) (fun fuel z hz => ?_) (fun fuel k z hk hz => ?_) 32 0 r N (by omega) (by omega) ⟨⟨rfl, fun _ _ => rfl⟩, fun g hg => absurd hg (Nat.not_lt_zero g)⟩
  · rw [f_R_takes_2, if_pos (show (32 : Int32) ≤ iN 32 from i_le_rfl _)]
    exact t23 z hz.1 hz.2
  · refine ⟨_, ?_, hz.1.st (k := k) (v := 0), fun g hg => ?_⟩
    · rw [f_R_takes_2, if_neg (show ¬ (32 : Int32) ≤ iN k from iN_nle (n := 32) hk (by decide)), yw21 hk, ob, iN_s]
    · rw [rst_own]
      by_cases h : g = k
      · rw [if_pos h]
      · rw [if_neg h]; exact hz.2 g (by omega)
/-- the owns and friends that the years begin with -/
def YR (q : Rho) (n : Nat) (fr ow : Nat → Int32) : Prop := ∀ i, i < n → q.2 18 i = ow i ∧ q.2 20 i = fr i
theorem year_md (I : Inv (r.2 1)) (hN : 40 < N) (Y : YR r (cn (r.2 1) 5) fr ow) (hw : ∀ k, k < cn (r.2 1) 5 → nx (ow k) 32) : ∃ q, f_R_year N r = some (b01 (chB fr (cn (r.2 1) 5) ow), q) ∧ Yq r q ∧ YR q (cn (r.2 1) 5) fr (yrM fr (cn (r.2 1) 5) ow) := by
  have h5 := I.b5
  have y33 : ∀ q, Yq r q → YR q (cn (r.2 1) 5) fr ow → (∀ i, i < cn (r.2 1) 5 → q.2 19 i = yrM fr (cn (r.2 1) 5) ow i) → ∃ s, f_R_year_33 N N 0 0 q = some (b01 (chB fr (cn (r.2 1) 5) ow), s) ∧ Yq r s ∧ YR s (cn (r.2 1) 5) fr (yrM fr (cn (r.2 1) 5) ow) := by
    intro q hq Yh hv
    refine lp_inv (F := fun fuel k (z : Int32 × Rho) => f_R_year_33 N fuel z.1 (iN k) z.2) (n := cn (r.2 1) 5) (P := fun k z => z.1 = b01 (anyB (fun p => decide (yrM fr (cn (r.2 1) 5) ow p ≠ ow p)) k) ∧ Yq r z.2 ∧ (∀ i, i < cn (r.2 1) 5 → z.2.2 19 i = yrM fr (cn (r.2 1) 5) ow i ∧ z.2.2 20 i = fr i ∧ z.2.2 18 i = if i < k then yrM fr (cn (r.2 1) 5) ow i else ow i)) (Q := fun t => ∃ s, t = some (b01 (chB fr (cn (r.2 1) 5) ow), s) ∧ Yq r s ∧ YR s (cn (r.2 1) 5) fr (yrM fr (cn (r.2 1) 5) ow)) (fun fuel z hz => ?_) (fun fuel k z hk hz => ?_) (cn (r.2 1) 5) 0 (0, q) N (by omega) (by omega) ⟨rfl, hq, fun i hi => ⟨hv i hi, (Yh i hi).2, by rw [if_neg (Nat.not_lt_zero i)]; exact (Yh i hi).1⟩⟩
    · obtain ⟨z1, z2, z3⟩ := hz
      refine ⟨z.2, ?_, z2, fun i hi => ⟨by rw [(z3 i hi).2.2, if_pos hi], (z3 i hi).2.1⟩⟩
      show f_R_year_33 N (fuel + 1) z.1 (iN (cn (r.2 1) 5)) z.2 = _
      rw [f_R_year_33, rlm5, ob, z2.em, I.n5, if_pos (i_le_rfl _), z1, zg_b, ob]
      rfl
    · obtain ⟨z1, z2, z3⟩ := hz
      obtain ⟨e1, e2, e3⟩ := z3 k hk
      rw [if_neg (Nat.lt_irrefl k)] at e3
      refine ⟨(b01 (anyB (fun p => decide (yrM fr (cn (r.2 1) 5) ow p ≠ ow p)) (k + 1)), r_st z.2 18 k (yrM fr (cn (r.2 1) 5) ow k)), ?_, rfl, z2.st (Or.inl rfl), fun i hi => ?_⟩
      · show f_R_year_33 N (fuel + 1) z.1 (iN k) z.2 = f_R_year_33 N fuel (b01 (anyB (fun p => decide (yrM fr (cn (r.2 1) 5) ow p ≠ ow p)) k || decide (yrM fr (cn (r.2 1) 5) ow k ≠ ow k))) (iN (k + 1)) (r_st z.2 18 k (yrM fr (cn (r.2 1) 5) ow k))
        rw [f_R_year_33, rlm5, ob, z2.em, I.n5, if_neg (iN_nle hk (by omega)), z1, y18 (by omega), ob, y19 (by omega), ob, e1, e3]
        have fin : ∀ y, f_R_year_67 N (f_R_year_33 N fuel) (iN k) y z.2 = f_R_year_33 N fuel y (iN (k + 1)) (r_st z.2 18 k (yrM fr (cn (r.2 1) 5) ow k)) := fun y => by
          unfold f_R_year_67
          rw [y19 (by omega), ob, e1, yw18 (by omega), ob, iN_s]
        unfold f_R_year_62
        rw [fin, fin]
        cases anyB (fun p => decide (yrM fr (cn (r.2 1) 5) ow p ≠ ow p)) k with
        | true => rw [if_neg (show ¬ b01 true = 0 by decide), Bool.true_or]; rfl
        | false =>
          rw [if_pos (show b01 false = 0 from rfl), Bool.false_or]
          by_cases h : ow k = yrM fr (cn (r.2 1) 5) ow k
          · rw [if_pos h, decide_eq_false (fun q => q h.symm)]; rfl
          · have h2 : yrM fr (cn (r.2 1) 5) ow k ≠ ow k := fun q => h q.symm
            rw [if_neg h, decide_eq_true h2]; rfl
      · obtain ⟨f1, f2, f3⟩ := z3 i hi
        refine ⟨f1, f2, ?_⟩
        show (r_st z.2 18 k (yrM fr (cn (r.2 1) 5) ow k)).2 18 i = _
        rw [rst_own]
        by_cases h : i = k
        · rw [if_pos h, if_pos (by omega), h]
        · rw [if_neg h, f3]
          by_cases h2 : i < k
          · rw [if_pos h2, if_pos (by omega)]
          · rw [if_neg h2, if_neg (by omega)]
  unfold f_R_year
  refine lp_inv (F := fun fuel k z => f_R_year_4 N fuel 0 (iN k) z) (n := cn (r.2 1) 5) (P := fun k z => Yq r z ∧ YR z (cn (r.2 1) 5) fr ow ∧ ∀ i, i < k → z.2 19 i = yrM fr (cn (r.2 1) 5) ow i) (Q := fun t => ∃ s, t = some (b01 (chB fr (cn (r.2 1) 5) ow), s) ∧ Yq r s ∧ YR s (cn (r.2 1) 5) fr (yrM fr (cn (r.2 1) 5) ow)) (fun fuel z hz => ?_) (fun fuel k z hk hz => ?_) (cn (r.2 1) 5) 0 r N (by omega) (by omega) ⟨Yq.refl r, Y, fun i hi => absurd hi (Nat.not_lt_zero i)⟩
  · rw [f_R_year_4, rlm5, ob, hz.1.em, I.n5, if_pos (i_le_rfl _)]
    exact y33 z hz.1 hz.2.1 hz.2.2
  · obtain ⟨z1, z2, z3⟩ := hz
    have em : z.2 1 = r.2 1 := z1.em
    obtain ⟨s, m1, s1⟩ := takes_md (r := z) (N := N) (p := k) (by rw [em]; exact I) hN (by omega) (fun i hi => by rw [em] at hi; rw [(z2 i hi).1]; exact hw i hi) (by rw [(z2 k hk).1]; exact hw k hk)
    have et : tkM (z.2 20 k) (z.2 18) (cn (z.2 1) 5) (z.2 18 k) = yrM fr (cn (r.2 1) 5) ow k := by
      unfold yrM
      rw [if_pos hk, em, (z2 k hk).1, (z2 k hk).2]
      exact tkM_congr (fun i hi => (z2 i hi).1) _
    rw [et] at m1
    refine ⟨_, ?_, (z1.trans s1.y).st (j := 19) (k := k) (v := yrM fr (cn (r.2 1) 5) ow k) (Or.inr (Or.inl rfl)), fun i hi => ?_, fun i hi => ?_⟩
    · rw [f_R_year_4, rlm5, ob, em, I.n5, if_neg (iN_nle hk (by omega)), m1, ob]
      dsimp only
      rw [yw19 (by omega), ob, iN_s]
    · rw [rst_ne (by decide), rst_ne (by decide), s1.2 18 (by decide), s1.2 20 (by decide)]
      exact z2 i hi
    · rw [rst_own]
      by_cases h : i = k
      · rw [if_pos h, h]
      · rw [if_neg h, s1.2 19 (by decide)]
        exact z3 i (by omega)
def frM (m : Nat → Int32) (i : Nat) : Int32 := tdS m i ||| ((1 : Int32) <<< (iN i &&& 31))
def owS (m : Nat → Int32) (a g : Int32) (p : Nat) : Int32 := if p < cn m 5 then (if ib a p = true then g else pC m p 1) else 0
theorem owS_can (m : Nat → Int32) (a g : Int32) : canN (cn m 5) (owS m a g) := fun p hp => if_neg (by omega)
theorem owS_nx (I : Inv m) (hg : nx g 32) : ∀ k, k < cn m 5 → nx (owS m a g k) 32 := fun k hk => by
  unfold owS
  rw [if_pos hk]
  by_cases h : ib a k = true
  · rw [if_pos h]; exact hg
  · rw [if_neg h]; exact (I.p hk).1.2.1
theorem starts_md (I : Inv (r.2 1)) (hN : 40 < N) (a g : Int32) : ∃ q, f_R_starts N a g r = some q ∧ Yq r q ∧ YR q (cn (r.2 1) 5) (frM (r.2 1)) (owS (r.2 1) a g) := by
  have h5 := I.b5
  unfold f_R_starts
  refine lp_inv (F := fun fuel k z => f_R_starts_2 N a g fuel (iN k) z) (n := cn (r.2 1) 5) (P := fun k z => Yq r z ∧ ∀ i, i < k → z.2 18 i = owS (r.2 1) a g i ∧ z.2 20 i = frM (r.2 1) i) (Q := fun t => ∃ s, t = some s ∧ Yq r s ∧ YR s (cn (r.2 1) 5) (frM (r.2 1)) (owS (r.2 1) a g)) (fun fuel z hz => ?_) (fun fuel k z hk hz => ?_) (cn (r.2 1) 5) 0 r N (by omega) (by omega) ⟨Yq.refl r, fun i hi => absurd hi (Nat.not_lt_zero i)⟩
  · refine ⟨z, ?_, hz.1, hz.2⟩
    rw [f_R_starts_2, rlm5, ob, hz.1.em, I.n5, if_pos (i_le_rfl _)]
  · obtain ⟨z1, z2⟩ := hz
    have em : z.2 1 = r.2 1 := z1.em
    have fin : ∀ y, f_R_starts_35 N a g (f_R_starts_2 N a g fuel) (iN k) (iN k) y z = f_R_starts_2 N a g fuel (iN (k + 1)) (r_st (r_st z 18 k y) 20 k (frM (r.2 1) k)) := fun y => by
      unfold f_R_starts_35
      have e1 : (r_st z 18 k y).2 1 = r.2 1 := (rst_ne (by decide)).trans em
      rw [yw18 (by omega), ob, f_R_tiedTo_eq (r := r_st z 18 k y) (by rw [e1]; exact I) hN k, ob, e1, yw20 (by omega), ob, iN_s]
      rfl
    refine ⟨r_st (r_st z 18 k (owS (r.2 1) a g k)) 20 k (frM (r.2 1) k), ?_, (z1.st (Or.inl rfl)).st (Or.inr (Or.inr (Or.inl rfl))), fun i hi => ?_⟩
    · rw [f_R_starts_2, rlm5, ob, em, I.n5, if_neg (iN_nle hk (by omega)), f_R_isOf_eq (show k < 32 by omega), ob, of1 (by omega), ob, em]
      unfold owS
      rw [if_pos hk]
      by_cases h : ib a k = true
      · rw [h, if_neg (show ¬ b01 true = 0 by decide), if_pos rfl, fin]
      · rw [Bool.eq_false_iff.mpr h, if_pos (show b01 false = 0 from rfl), if_neg (by decide), fin]
    · rw [rst_ne (show (18 : Nat) ≠ 20 by decide), rst_own, rst_own, rst_ne (show (20 : Nat) ≠ 18 by decide)]
      by_cases h : i = k
      · rw [if_pos h, if_pos h, h]
        exact ⟨rfl, rfl⟩
      · rw [if_neg h, if_neg h]
        exact z2 i (by omega)
theorem years_md (I : Inv (r.2 1)) (hN : 100 < N) (hc : canN (cn (r.2 1) 5) ow) (Y : YR r (cn (r.2 1) 5) fr ow) (hw : ∀ k, k < cn (r.2 1) 5 → nx (ow k) 32) (hn : n ≤ 60) : ∃ q, f_R_years N (iN n) r = some q ∧ Yq r q ∧ YR q (cn (r.2 1) 5) fr (itM fr (cn (r.2 1) 5) ow n) := by
  have key : ∀ (j k fuel : Nat) (q : Rho), k + j = n → j + 1 < fuel → Yq r q → YR q (cn (r.2 1) 5) fr (itM fr (cn (r.2 1) 5) ow k) → ∃ s, f_R_years_4 N (iN n) fuel 1 (iN k) q = some s ∧ Yq r s ∧ YR s (cn (r.2 1) 5) fr (itM fr (cn (r.2 1) 5) ow n) := by
    intro j
    induction j with
    | zero =>
      intro k fuel q hk hf hq hy
      obtain ⟨fu, rfl⟩ : ∃ fu, fuel = fu + 1 := ⟨fuel - 1, by omega⟩
      obtain rfl : k = n := by omega
      exact ⟨q, by rw [f_R_years_4, if_pos (i_le_rfl _)], hq, hy⟩
    | succ j ih =>
      intro k fuel q hk hf hq hy
      obtain ⟨fu, rfl⟩ : ∃ fu, fuel = fu + 1 := ⟨fuel - 1, by omega⟩
      have em := hq.em
      obtain ⟨s, m1, s1, s2⟩ := year_md (r := q) (N := N) (fr := fr) (ow := itM fr (cn (r.2 1) 5) ow k) (by rw [em]; exact I) (by omega) (by rw [em]; exact hy) (by rw [em]; exact itM_nx hw k)
      rw [em] at m1 s2
      rw [f_R_years_4, if_neg (iN_nle (by omega) (by omega)), if_neg (by decide), m1, ob]
      dsimp only
      rw [iN_s]
      cases hch : chB fr (cn (r.2 1) 5) (itM fr (cn (r.2 1) 5) ow k) with
      | true => exact ih (k + 1) fu s (by omega) (by omega) (hq.trans s1) s2
      | false =>
        obtain ⟨fv, rfl⟩ : ∃ fv, fu = fv + 1 := ⟨fu - 1, by omega⟩
        refine ⟨s, ?_, hq.trans s1, ?_⟩
        · rw [f_R_years_4]
          by_cases h : iN n ≤ iN (k + 1)
          · rw [if_pos h]
          · rw [if_neg h, if_pos (show b01 false = 0 from rfl)]
        · have e1 : itM fr (cn (r.2 1) 5) ow (k + 1) = itM fr (cn (r.2 1) 5) ow k := chB_f (itM_can hc k) hch
          rw [show n = k + (j + 1) by omega, itM_fix e1 (j + 1), ← e1]
          exact s2
  exact key n 0 N r (by omega) (by omega) (Yq.refl r) Y
end Ym
