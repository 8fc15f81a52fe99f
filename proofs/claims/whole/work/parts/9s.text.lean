/-! letters -/
section Tx
variable {N en i j k p t w : Nat} {tx : Nat → Int32} {r q : Rho} {f a b lo hi : Int32} {W : List Int32} {c : Nat → Bool}
def isL (v : Int32) : Bool := decide (97 ≤ v ∧ v ≤ 122)
def isD (v : Int32) : Bool := decide (48 ≤ v ∧ v ≤ 57)
/-- the first from i on with c, or the end -/
def sE (c : Nat → Bool) (en i : Nat) : Nat := srB c (en - i) i
theorem sE_s (h : i < en) : sE c en i = if c i = true then i else sE c en (i + 1) := by
  unfold sE
  rw [show en - i = (en - (i + 1)) + 1 by omega]
  rfl
theorem sE_e (c : Nat → Bool) (en : Nat) : sE c en en = en := by
  unfold sE
  rw [Nat.sub_self]
  rfl
theorem sE_b (c : Nat → Bool) (h : i ≤ en) : i ≤ sE c en i ∧ sE c en i ≤ en := by
  have := srB_ge c (en - i) i
  unfold sE
  omega
theorem sE_at (h : sE c en i < en) (hi : i ≤ en) : c (sE c en i) = true := srB_at c (en - i) i (by unfold sE at h; omega)
theorem sE_lo (h1 : i ≤ j) (h2 : j < sE c en i) : c j = false := srB_lo c (en - i) i j h1 h2
theorem sE_u (h1 : i ≤ j) (h2 : j ≤ en) (h3 : ∀ k, i ≤ k → k < j → c k = false) (h4 : j < en → c j = true) : sE c en i = j := by
  have hb := sE_b c (show i ≤ en by omega)
  rcases Nat.lt_trichotomy (sE c en i) j with h | h | h
  · have h5 := sE_at (c := c) (i := i) (en := en) (by omega) (by omega)
    rw [h3 _ hb.1 h] at h5
    cases h5
  · exact h
  · have h5 := sE_lo (c := c) (en := en) h1 h
    rw [h4 (by omega)] at h5
    cases h5
def skN (tx : Nat → Int32) (en i : Nat) : Nat := sE (fun j => decide (tx j ≠ 32)) en i
def lwE (tx : Nat → Int32) (en i : Nat) : Nat := sE (fun j => !isL (tx j)) en i
def dgE (tx : Nat → Int32) (en i : Nat) : Nat := sE (fun j => !isD (tx j)) en i
/-- where the thing at i ends -/
def tkE (tx : Nat → Int32) (en i : Nat) : Nat := if lwE tx en i ≠ i then lwE tx en i else if dgE tx en i ≠ i then dgE tx en i else if i < en then i + 1 else i
theorem sk_b (h : i ≤ en) : i ≤ skN tx en i ∧ skN tx en i ≤ en := sE_b _ h
theorem lw_b (h : i ≤ en) : i ≤ lwE tx en i ∧ lwE tx en i ≤ en := sE_b _ h
theorem dg_b (h : i ≤ en) : i ≤ dgE tx en i ∧ dgE tx en i ≤ en := sE_b _ h
theorem tk_b (h : i ≤ en) : i ≤ tkE tx en i ∧ tkE tx en i ≤ en := by
  have h1 := lw_b (tx := tx) h
  have h2 := dg_b (tx := tx) h
  unfold tkE
  by_cases h3 : lwE tx en i ≠ i
  · rw [if_pos h3]; exact h1
  · rw [if_neg h3]
    by_cases h4 : dgE tx en i ≠ i
    · rw [if_pos h4]; exact h2
    · rw [if_neg h4]
      by_cases h5 : i < en
      · rw [if_pos h5]; omega
      · rw [if_neg h5]; omega
theorem sk_sk (h : i ≤ en) : skN tx en (skN tx en i) = skN tx en i := by
  have h1 := sk_b (tx := tx) h
  refine sE_u (Nat.le_refl _) h1.2 (fun k h2 h3 => by omega) fun h2 => ?_
  exact sE_at (c := fun j => decide (tx j ≠ 32)) h2 h
theorem LD (v : Int32) (h : isD v = true) : isL v = false := by
  unfold isD at h
  unfold isL
  rw [decide_eq_true_eq] at h
  refine decide_eq_false fun q => ?_
  have h1 := Int32.le_trans q.1 h.2
  exact absurd h1 (by decide)
theorem lw_i (h : i < en) (hl : isL (tx i) = false) : lwE tx en i = i := by
  unfold lwE
  rw [sE_s h]
  exact if_pos (by rw [hl]; rfl)
theorem dg_i (h : i < en) (hl : isD (tx i) = false) : dgE tx en i = i := by
  unfold dgE
  rw [sE_s h]
  exact if_pos (by rw [hl]; rfl)
theorem lw_n (h : i < en) (hl : isL (tx i) = true) : i < lwE tx en i := by
  have hb := lw_b (tx := tx) (show i + 1 ≤ en by omega)
  unfold lwE at hb ⊢
  rw [sE_s h, if_neg (by rw [hl]; decide)]
  omega
theorem dg_n (h : i < en) (hl : isD (tx i) = true) : i < dgE tx en i := by
  have hb := dg_b (tx := tx) (show i + 1 ≤ en by omega)
  unfold dgE at hb ⊢
  rw [sE_s h, if_neg (by rw [hl]; decide)]
  omega
theorem dg_ne (h : i ≤ en) (hd : dgE tx en i ≠ i) : i < en ∧ isD (tx i) = true := by
  have hb := dg_b (tx := tx) h
  have h1 : i < en := by omega
  refine ⟨h1, ?_⟩
  cases h2 : isD (tx i) with
  | true => rfl
  | false => exact absurd (dg_i h1 h2) hd
theorem tk_dg (h : i ≤ en) (hd : dgE tx en i ≠ i) : tkE tx en i = dgE tx en i := by
  obtain ⟨h1, h2⟩ := dg_ne h hd
  unfold tkE
  rw [lw_i h1 (LD _ h2), if_neg (fun q => q rfl), if_pos hd]
theorem tk_sign (h : i < en) (h1 : isL (tx i) = false) (h2 : isD (tx i) = false) : tkE tx en i = i + 1 := by
  unfold tkE
  rw [lw_i h h1, if_neg (fun q => q rfl), dg_i h h2, if_neg (fun q => q rfl), if_pos h]
/-- the word at i -/
def wAt (tx : Nat → Int32) (en i : Nat) (W : List Int32) : Prop := lwE tx en i = i + W.length ∧ ∀ k, k < W.length → tx (i + k) = W.getD k 0
def wdB (w : Nat) : Bool := decide (w < s_tab.length) && decide (0 < (s_byt w).length) && decide ((s_byt w).length ≤ 10) && (List.range (s_byt w).length).all fun k => isL ((s_byt w).getD k 0)
theorem wdB_p (h : wdB w = true) : w < s_tab.length ∧ 0 < (s_byt w).length ∧ (s_byt w).length ≤ 10 ∧ ∀ k, k < (s_byt w).length → isL ((s_byt w).getD k 0) = true := by
  unfold wdB at h
  rw [Bool.and_eq_true, Bool.and_eq_true, Bool.and_eq_true, decide_eq_true_eq, decide_eq_true_eq, decide_eq_true_eq, List.all_eq_true] at h
  exact ⟨h.1.1.1, h.1.1.2, h.1.2, fun k hk => h.2 k (List.mem_range.mpr hk)⟩
theorem sLen_eq (h : wdB w = true) : sLen w = some (iN (s_byt w).length) := if_pos (wdB_p h).1
theorem sAt_eq (h : wdB w = true) (hk : k < (s_byt w).length) : sAt w (iN k) = some ((s_byt w).getD k 0) := by
  obtain ⟨h1, h2, h3, h4⟩ := wdB_p h
  unfold sAt
  rw [if_pos ⟨h1, inR_iN hk (by omega)⟩, iN_cl (by omega)]
theorem wAt_tk (h : wAt tx en i W) (hw : 0 < W.length) : tkE tx en i = lwE tx en i := by
  unfold tkE
  rw [if_pos]
  rw [h.1]
  omega
theorem wAt_lt (h : wAt tx en i W) (hi : i ≤ en) (hw : 0 < W.length) : i < en := by
  have := lw_b (tx := tx) hi
  rw [h.1] at this
  omega
theorem wAt_ne {V : List Int32} (h : wAt tx en i W) (hne : W ≠ V) (hl : W.length = V.length) : ¬ wAt tx en i V := fun q => by
  refine hne (List.ext_getElem? fun k => ?_)
  by_cases hk : k < W.length
  · have h1 := h.2 k hk
    have h2 := q.2 k (by omega)
    rw [h1] at h2
    rw [List.getD_eq_getElem?_getD, List.getD_eq_getElem?_getD, List.getElem?_eq_getElem hk, List.getElem?_eq_getElem (show k < V.length by omega)] at h2
    rw [List.getElem?_eq_getElem hk, List.getElem?_eq_getElem (show k < V.length by omega)]
    exact congrArg some h2
  · rw [List.getElem?_eq_none (by omega), List.getElem?_eq_none (by omega)]
/-! numbers -/
def dvN (tx : Nat → Int32) (i j : Nat) : Nat := lp (fun k z => 10 * z + ((tx k).toNatClampNeg - 48)) (j - i) i 0
theorem dv_s (h : i ≤ j) : dvN tx i (j + 1) = 10 * dvN tx i j + ((tx j).toNatClampNeg - 48) := by
  unfold dvN
  rw [show j + 1 - i = (j - i) + 1 by omega, lp_snoc, show i + (j - i) = j by omega]
theorem dig_v {v : Int32} (h : isD v = true) : v = iN (v.toNatClampNeg - 48 + 48) ∧ v.toNatClampNeg - 48 ≤ 9 := by
  unfold isD at h
  rw [decide_eq_true_eq] at h
  have h0 : 0 ≤ v := Int32.le_trans (by decide) h.1
  obtain ⟨h1, h2⟩ := iN_of h0
  have h3 : (iN 48 : Int32) ≤ iN v.toNatClampNeg := by rw [← h1]; exact h.1
  have h4 : iN v.toNatClampNeg ≤ (iN 57 : Int32) := by rw [← h1]; exact h.2
  rw [iN_le (by decide) h2] at h3
  rw [iN_le h2 (by decide)] at h4
  refine ⟨?_, by omega⟩
  rw [show v.toNatClampNeg - 48 + 48 = v.toNatClampNeg by omega]
  exact h1
theorem dv_le (h : i ≤ j) (h2 : j ≤ i + 4) (hd : ∀ k, i ≤ k → k < j → isD (tx k) = true) : dvN tx i j ≤ 9999 ∧ (j ≤ i + 3 → dvN tx i j ≤ 999) := by
  have key : ∀ d, d ≤ 4 → i + d ≤ j → dvN tx i (i + d) + 1 ≤ 10 ^ d := by
    intro d
    induction d with
    | zero => intro _ _; unfold dvN; rw [show i + 0 - i = 0 by omega]; exact Nat.le_refl _
    | succ d ih =>
      intro h3 h4
      have h5 := ih (by omega) (by omega)
      have h6 := (dig_v (hd (i + d) (by omega) (by omega))).2
      show dvN tx i (i + d + 1) + 1 ≤ _
      rw [dv_s (by omega), Nat.pow_succ]
      omega
  have h3 := key (j - i) (by omega) (by omega)
  rw [show i + (j - i) = j by omega] at h3
  have h4 : j - i = 0 ∨ j - i = 1 ∨ j - i = 2 ∨ j - i = 3 ∨ j - i = 4 := by omega
  rcases h4 with h4 | h4 | h4 | h4 | h4 <;> rw [h4] at h3 <;> constructor <;> (try intro _) <;> omega
theorem dv_step (h : i ≤ j) (hd : isD (tx j) = true) : ((10 * iN (dvN tx i j)) + tx j) - 48 = iN (dvN tx i (j + 1)) := by
  obtain ⟨h1, h2⟩ := dig_v hd
  rw [dv_s h]
  generalize (tx j).toNatClampNeg - 48 = e at *
  rw [h1, show (10 : Int32) = iN 10 from rfl, iN_mul, iN_add, show iN (10 * dvN tx i j + (e + 48)) - 48 = iN (10 * dvN tx i j + (e + 48) - 48) from iN_sub (b := 48) (by omega)]
  exact congrArg iN (by omega)
/-- a number from lo to hi stands at i -/
def gdN (tx : Nat → Int32) (en i lo : Nat) (hi : Int32) : Prop := dgE tx en i ≠ i ∧ dgE tx en i ≤ i + 3 ∧ lo ≤ dvN tx i (dgE tx en i) ∧ iN (dvN tx i (dgE tx en i)) ≤ hi
theorem dg_all (h : i ≤ k) (h2 : k < dgE tx en i) : isD (tx k) = true := by
  have := sE_lo (c := fun j => !isD (tx j)) (en := en) h h2
  simpa using this
/-! the model's letters -/
def TXm (r : Rho) (tx : Nat → Int32) (en : Nat) : Prop := r.1 10 = iN en ∧ ((r.1 9 = -1 ∧ ∀ k, k < en → r.2 7 k = tx k) ∨ (r.1 9 = 900 ∧ ∀ k, k < en → r.2 1 (900 + k) = tx k))
/-- the same, but for the place and the fault -/
def Lx (r q : Rho) : Prop := q.2 = r.2 ∧ ∀ j, j ≠ 11 → j ≠ 12 → q.1 j = r.1 j
theorem Lx.refl (r : Rho) : Lx r r := ⟨rfl, fun _ _ _ => rfl⟩
theorem Lx.trans {s : Rho} (h : Lx r q) (k : Lx q s) : Lx r s := ⟨k.1.trans h.1, fun j a b => (k.2 j a b).trans (h.2 j a b)⟩
theorem Lx.s11 (r : Rho) (v : Int32) : Lx r (r_set r 11 v) := ⟨rfl, fun j a _ => set_f a⟩
theorem Lx.s12 (r : Rho) (v : Int32) : Lx r (r_set r 12 v) := ⟨rfl, fun j _ b => set_f b⟩
theorem TXm.lx (h : TXm r tx en) (k : Lx r q) : TXm q tx en := by
  refine ⟨(k.2 10 (by decide) (by decide)).trans h.1, ?_⟩
  rw [k.2 9 (by decide) (by decide), k.1]
  exact h.2
theorem letter_eq (h : TXm r tx en) (hen : en ≤ 400) (hk : k < en) : f_R_letter (iN k) r = some (tx k) := by
  unfold f_R_letter
  rcases h.2 with ⟨h1, h2⟩ | ⟨h1, h2⟩
  · rw [if_pos h1, rld7 (by omega), ob, h2 k hk]
  · rw [if_neg (by rw [h1]; decide), h1, show (900 : Int32) + iN k = iN (900 + k) from iN_add 900 k, rld1 (by omega), ob, h2 k hk]
theorem skip_md (h : TXm r tx en) (hen : en ≤ 400) (hN : 500 < N) (hj : j ≤ en) (h11 : r.1 11 = iN j) : ∃ q, f_R_skip N r = some q ∧ Lx r q ∧ q.1 12 = r.1 12 ∧ q.1 11 = iN (skN tx en j) := by
  have key : ∀ (d j fuel : Nat) (q : Rho), j + d = en → d < fuel → Lx r q → q.1 12 = r.1 12 → q.1 11 = iN j → ∃ s, f_R_skip_0 N fuel q = some s ∧ Lx r s ∧ s.1 12 = r.1 12 ∧ s.1 11 = iN (skN tx en j) := by
    intro d
    induction d with
    | zero =>
      intro j fuel q hj hf hq h12 h11
      obtain ⟨fu, rfl⟩ : ∃ fu, fuel = fu + 1 := ⟨fuel - 1, by omega⟩
      obtain rfl : j = en := by omega
      refine ⟨q, ?_, hq, h12, by rw [h11]; unfold skN; rw [sE_e]⟩
      rw [f_R_skip_0, h11, hq.2 10 (by decide) (by decide), h.1, if_pos (i_le_rfl _)]
    | succ d ih =>
      intro j fuel q hj hf hq h12 h11
      obtain ⟨fu, rfl⟩ : ∃ fu, fuel = fu + 1 := ⟨fuel - 1, by omega⟩
      have hjn : j < en := by omega
      have hT := h.lx hq
      rw [f_R_skip_0, h11, hT.1, if_neg (iN_nle hjn (by omega)), letter_eq hT hen hjn, ob, iN_s]
      by_cases h32 : tx j = 32
      · rw [if_pos h32]
        have e : skN tx en j = skN tx en (j + 1) := by
          unfold skN
          rw [sE_s hjn, if_neg]
          rw [h32]
          decide
        rw [e]
        exact ih (j + 1) fu _ (by omega) (by omega) (hq.trans (Lx.s11 _ _)) h12 (set_s _ _ _)
      · rw [if_neg h32]
        refine ⟨q, rfl, hq, h12, ?_⟩
        rw [h11]
        unfold skN
        rw [sE_s hjn, if_pos (decide_eq_true h32)]
  exact key (en - j) j N r (by omega) (by omega) (Lx.refl r) rfl h11
/-- the model stands before the thing at i, and nothing is wrong -/
def ML (r : Rho) (tx : Nat → Int32) (en i : Nat) : Prop := r.1 12 = -1 ∧ ∃ j, j ≤ en ∧ r.1 11 = iN j ∧ skN tx en j = i
/-- .. something is wrong at f -/
def MD (r : Rho) (f : Int32) (D : Nat) : Prop := r.1 12 = f ∧ ∃ j, j + D ≤ 406 ∧ r.1 11 = iN j
theorem ML.le (h : ML r tx en i) : i ≤ en := by
  obtain ⟨-, j, h1, -, rfl⟩ := h
  exact (sk_b h1).2
theorem skip_ml (h : TXm r tx en) (hen : en ≤ 400) (hN : 500 < N) (m : ML r tx en i) : ∃ q, f_R_skip N r = some q ∧ Lx r q ∧ q.1 12 = -1 ∧ q.1 11 = iN i := by
  obtain ⟨h1, j, h2, h3, rfl⟩ := m
  obtain ⟨q, a1, a2, a3, a4⟩ := skip_md h hen hN h2 h3
  exact ⟨q, a1, a2, a3.trans h1, a4⟩
theorem isInL {v : Int32} : f_R_isIn v 97 122 = some (b01 (isL v)) := by
  unfold f_R_isIn isL
  by_cases h1 : v < 97
  · rw [if_pos h1, decide_eq_false fun q => Int32.not_lt.mpr q.1 h1]; rfl
  · rw [if_neg h1]
    by_cases h2 : 122 < v
    · rw [if_pos h2, decide_eq_false fun q => Int32.not_lt.mpr q.2 h2]; rfl
    · rw [if_neg h2, decide_eq_true (And.intro (Int32.not_lt.mp h1) (Int32.not_lt.mp h2))]; rfl
theorem isInD {v : Int32} : f_R_isIn v 48 57 = some (b01 (isD v)) := by
  unfold f_R_isIn isD
  by_cases h1 : v < 48
  · rw [if_pos h1, decide_eq_false fun q => Int32.not_lt.mpr q.1 h1]; rfl
  · rw [if_neg h1]
    by_cases h2 : 57 < v
    · rw [if_pos h2, decide_eq_false fun q => Int32.not_lt.mpr q.2 h2]; rfl
    · rw [if_neg h2, decide_eq_true (And.intro (Int32.not_lt.mp h1) (Int32.not_lt.mp h2))]; rfl
theorem has_md (h : TXm r tx en) (hen : en ≤ 400) (hN : 500 < N) (m : ML r tx en i) (hw : wdB w = true) : ∃ q, Lx r q ∧ q.1 12 = -1 ∧ ((wAt tx en i (s_byt w) ∧ f_R_has_ N w r = some (1, q) ∧ q.1 11 = iN (lwE tx en i)) ∨ (¬ wAt tx en i (s_byt w) ∧ f_R_has_ N w r = some (0, q) ∧ q.1 11 = iN i)) := by
  obtain ⟨q, a1, a2, a3, a4⟩ := skip_ml h hen hN m
  have hi := m.le
  have hT := h.lx a2
  have hlb := lw_b (tx := tx) hi
  obtain ⟨-, w2, w3, w4⟩ := wdB_p hw
  have k9 : ∀ (d j fuel : Nat), j + d = lwE tx en i → i ≤ j → d < fuel → f_R_has__9 N w fuel (iN j) q = f_R_has__38 N w (iN (lwE tx en i)) q := by
    intro d
    induction d with
    | zero =>
      intro j fuel hj hij hf
      obtain ⟨fu, rfl⟩ : ∃ fu, fuel = fu + 1 := ⟨fuel - 1, by omega⟩
      obtain rfl : j = lwE tx en i := by omega
      rw [f_R_has__9, hT.1]
      by_cases he : en ≤ lwE tx en i
      · rw [if_pos (iN_yle he (by omega))]
      · rw [if_neg (iN_nle (by omega) (by omega)), letter_eq hT hen (by omega), ob, isInL, ob]
        have := sE_at (c := fun j => !isL (tx j)) (en := en) (i := i) (by unfold lwE at he; omega) hi
        have h2 : (!isL (tx (lwE tx en i))) = true := this
        rw [Bool.not_eq_true'] at h2
        rw [h2, if_pos (show b01 false = 0 from rfl)]
    | succ d ih =>
      intro j fuel hj hij hf
      obtain ⟨fu, rfl⟩ : ∃ fu, fuel = fu + 1 := ⟨fuel - 1, by omega⟩
      have := sE_lo (c := fun j => !isL (tx j)) (en := en) (i := i) hij (show j < lwE tx en i by omega)
      have h2 : isL (tx j) = true := by simpa using this
      rw [f_R_has__9, hT.1, if_neg (iN_nle (show j < en by omega) (by omega)), letter_eq hT hen (by omega), ob, isInL, ob, h2, if_neg (show ¬ b01 true = 0 by decide), iN_s]
      exact ih (j + 1) fu (by omega) (by omega) (by omega)
  have e0 : f_R_has_ N w r = f_R_has__38 N w (iN (lwE tx en i)) q := by
    unfold f_R_has_
    rw [a1, ob, a4]
    exact k9 (lwE tx en i - i) i N (by omega) (Nat.le_refl _) (by omega)
  have e38 : f_R_has__38 N w (iN (lwE tx en i)) q = if lwE tx en i - i = (s_byt w).length then f_R_has__55 N w N (iN (lwE tx en i)) 0 q else some (0, q) := by
    unfold f_R_has__38
    rw [sLen_eq hw, ob, a4, iN_sub hlb.1]
    by_cases h1 : lwE tx en i - i = (s_byt w).length
    · rw [if_pos (by rw [h1]), if_pos h1]
    · rw [if_neg (iN_ne h1 (by omega) (by omega)), if_neg h1]
  by_cases h1 : lwE tx en i - i = (s_byt w).length
  · have k55 : ∀ (d j fuel : Nat), j + d = (s_byt w).length → d < fuel → (∀ k, k < j → tx (i + k) = (s_byt w).getD k 0) → f_R_has__55 N w fuel (iN (lwE tx en i)) (iN j) q = (if ∀ k, k < (s_byt w).length → tx (i + k) = (s_byt w).getD k 0 then some (1, r_set q 11 (iN (lwE tx en i))) else some (0, q)) := by
      intro d
      induction d with
      | zero =>
        intro j fuel hj hf hall
        obtain ⟨fu, rfl⟩ : ∃ fu, fuel = fu + 1 := ⟨fuel - 1, by omega⟩
        obtain rfl : j = (s_byt w).length := by omega
        rw [f_R_has__55, sLen_eq hw, ob, if_pos (i_le_rfl _), if_pos hall]
      | succ d ih =>
        intro j fuel hj hf hall
        obtain ⟨fu, rfl⟩ : ∃ fu, fuel = fu + 1 := ⟨fuel - 1, by omega⟩
        rw [f_R_has__55, sLen_eq hw, ob, if_neg (iN_nle (show j < (s_byt w).length by omega) (by omega)), a4, iN_add, letter_eq hT hen (by omega), ob, sAt_eq hw (by omega), ob, iN_s]
        by_cases he : tx (i + j) = (s_byt w).getD j 0
        · rw [if_pos he]
          refine ih (j + 1) fu (by omega) (by omega) fun k hk => ?_
          by_cases hkj : k = j
          · rw [hkj]; exact he
          · exact hall k (by omega)
        · rw [if_neg he, if_neg (fun q => he (q j (by omega)))]
    have e55 : f_R_has__55 N w N (iN (lwE tx en i)) 0 q = _ := k55 (s_byt w).length 0 N (Nat.zero_add _) (by omega) (fun k hk => absurd hk (Nat.not_lt_zero k))
    rw [if_pos h1, e55] at e38
    by_cases hall : ∀ k, k < (s_byt w).length → tx (i + k) = (s_byt w).getD k 0
    · rw [if_pos hall] at e38
      exact ⟨_, a2.trans (Lx.s11 _ _), a3, Or.inl ⟨⟨by omega, hall⟩, e0.trans e38, set_s _ _ _⟩⟩
    · rw [if_neg hall] at e38
      exact ⟨q, a2, a3, Or.inr ⟨fun z => hall z.2, e0.trans e38, a4⟩⟩
  · rw [if_neg h1] at e38
    exact ⟨q, a2, a3, Or.inr ⟨fun z => h1 (by rw [z.1]; omega), e0.trans e38, a4⟩⟩
theorem ML.at (hi : i ≤ en) (h12 : q.1 12 = -1) (h11 : q.1 11 = iN i) : ML q tx en (skN tx en i) := ⟨h12, i, hi, h11, rfl⟩
theorem ML.at0 (hi : i ≤ en) (hs : skN tx en i = i) (h12 : q.1 12 = -1) (h11 : q.1 11 = iN i) : ML q tx en i := ⟨h12, i, hi, h11, hs⟩
theorem ML.sk (m : ML r tx en i) : skN tx en i = i := by
  obtain ⟨-, j, h1, -, rfl⟩ := m
  exact sk_sk h1
theorem sign_md (h : TXm r tx en) (hen : en ≤ 400) (hN : 500 < N) (m : ML r tx en i) (c : Int32) : ∃ q, Lx r q ∧ q.1 12 = -1 ∧ q.1 11 = iN i ∧ ((i < en ∧ tx i = c ∧ f_R_isSign N c r = some (1, q)) ∨ (¬ (i < en ∧ tx i = c) ∧ f_R_isSign N c r = some (0, q))) := by
  obtain ⟨q, a1, a2, a3, a4⟩ := skip_ml h hen hN m
  have hT := h.lx a2
  have hi := m.le
  refine ⟨q, a2, a3, a4, ?_⟩
  unfold f_R_isSign
  rw [a1, ob, a4, hT.1]
  by_cases h1 : i < en
  · rw [if_neg (iN_nle h1 (by omega)), letter_eq hT hen h1, ob]
    by_cases h2 : tx i = c
    · rw [if_pos h2]; exact Or.inl ⟨h1, h2, rfl⟩
    · rw [if_neg h2]; exact Or.inr ⟨fun z => h2 z.2, rfl⟩
  · rw [if_pos (iN_yle (by omega) (by omega))]
    exact Or.inr ⟨fun z => h1 z.1, rfl⟩
theorem wrong_md (h12 : r.1 12 = -1) (v : Int32) : f_R_wrong v r = some (r_set r 12 v) := if_pos h12
theorem must_md (h : TXm r tx en) (hen : en ≤ 400) (hN : 500 < N) (m : ML r tx en i) (hw : wdB w = true) : ∃ q, f_R_must N w r = some q ∧ Lx r q ∧ ((wAt tx en i (s_byt w) ∧ q.1 12 = -1 ∧ q.1 11 = iN (lwE tx en i)) ∨ (¬ wAt tx en i (s_byt w) ∧ q.1 12 = iN i ∧ q.1 11 = iN i)) := by
  obtain ⟨q, a1, a2, a3⟩ := has_md h hen hN m hw
  unfold f_R_must
  rw [if_pos m.1]
  rcases a3 with ⟨b1, b2, b3⟩ | ⟨b1, b2, b3⟩
  · exact ⟨q, by rw [b2, ob, if_neg (by dsimp only; decide)], a1, Or.inl ⟨b1, a2, b3⟩⟩
  · refine ⟨r_set q 12 (iN i), ?_, a1.trans (Lx.s12 _ _), Or.inr ⟨b1, set_s _ _ _, b3⟩⟩
    rw [b2, ob, if_pos rfl]
    dsimp only
    rw [b3, wrong_md a2, ob]
theorem figures_md (h : TXm r tx en) (hen : en ≤ 400) (hN : 500 < N) (m : ML r tx en i) (lo : Nat) (hlo : lo ≤ 10000) (hi : Int32) : ∃ v q, f_R_figures N (iN lo) hi r = some (v, q) ∧ Lx r q ∧ ((gdN tx en i lo hi ∧ v = iN (dvN tx i (dgE tx en i)) ∧ q.1 12 = -1 ∧ q.1 11 = iN (dgE tx en i)) ∨ (¬ gdN tx en i lo hi ∧ q.1 12 = iN i ∧ ∃ j, j ≤ en ∧ q.1 11 = iN j)) := by
  obtain ⟨q, a1, a2, a3, a4⟩ := skip_ml h hen hN m
  have hie := m.le
  have hdb := dg_b (tx := tx) hie
  unfold f_R_figures f_R_place
  rw [if_pos m.1, a1, ob, ob, a4]
  dsimp only
  have dall : ∀ j, j ≤ dgE tx en i → ∀ k, i ≤ k → k < j → isD (tx k) = true := fun j hj k h1 h2 => dg_all (en := en) h1 (by omega)
  have e89 : ∀ (j : Nat) (q : Rho), i ≤ j → j ≤ i + 4 → j ≤ dgE tx en i → (j = dgE tx en i ∨ j = i + 4) → Lx r q → q.1 12 = -1 → q.1 11 = iN j → ∃ v s, f_R_figures_89 N (iN lo) hi (iN i) (iN (dvN tx i j)) q = some (v, s) ∧ Lx r s ∧ ((gdN tx en i lo hi ∧ v = iN (dvN tx i (dgE tx en i)) ∧ s.1 12 = -1 ∧ s.1 11 = iN (dgE tx en i)) ∨ (¬ gdN tx en i lo hi ∧ s.1 12 = iN i ∧ ∃ j, j ≤ en ∧ s.1 11 = iN j)) := by
    intro j q hij hj4 hjd hje hq h12 h11
    have bad : ¬ gdN tx en i lo hi → ∃ v s, f_R_figures_119 N (iN lo) hi (iN i) (iN (dvN tx i j)) q = some (v, s) ∧ Lx r s ∧ ((gdN tx en i lo hi ∧ v = iN (dvN tx i (dgE tx en i)) ∧ s.1 12 = -1 ∧ s.1 11 = iN (dgE tx en i)) ∨ (¬ gdN tx en i lo hi ∧ s.1 12 = iN i ∧ ∃ j, j ≤ en ∧ s.1 11 = iN j)) := fun hg => by
      refine ⟨iN (dvN tx i j), r_set q 12 (iN i), ?_, hq.trans (Lx.s12 _ _), Or.inr ⟨hg, set_s _ _ _, j, by omega, h11⟩⟩
      unfold f_R_figures_119
      rw [wrong_md h12, ob]
    have hv := dv_le hij hj4 (dall j hjd)
    unfold f_R_figures_89
    rw [h11, iN_sub hij]
    by_cases h1 : j = i
    · rw [if_pos (by rw [h1])]
      exact bad fun g => by
        rcases hje with h2 | h2
        · exact g.1 (h2.symm.trans h1)
        · omega
    · rw [if_neg (iN_ne h1 (by omega) (by omega))]
      by_cases h3 : 3 < j - i
      · rw [if_pos (show (3 : Int32) < iN (j - i) from iN_ylt (k := 3) h3 (by omega))]
        exact bad fun g => by
          have := g.2.1
          omega
      · rw [if_neg (show ¬ (3 : Int32) < iN (j - i) from iN_nlt (n := j - i) (k := 3) (by omega) (by decide))]
        have hjd2 : j = dgE tx en i := by omega
        by_cases h4 : dvN tx i j < lo
        · rw [if_pos (iN_ylt h4 (by omega))]
          exact bad fun g => by
            have := g.2.2.1
            rw [← hjd2] at this
            omega
        · rw [if_neg (iN_nlt (by omega) (by omega))]
          by_cases h5 : iN (dvN tx i j) ≤ hi
          · rw [if_pos h5]
            refine ⟨_, q, rfl, hq, Or.inl ⟨⟨by omega, by omega, by rw [← hjd2]; omega, by rw [← hjd2]; exact h5⟩, by rw [hjd2], h12, by rw [← hjd2]; exact h11⟩⟩
          · rw [if_neg h5]
            exact bad fun g => h5 (by have := g.2.2.2; rw [← hjd2] at this; exact this)
  have key : ∀ (d j fuel : Nat) (q : Rho), j + d = en → i ≤ j → j ≤ i + 4 → d < fuel → j ≤ dgE tx en i → Lx r q → q.1 12 = -1 → q.1 11 = iN j → ∃ v s, f_R_figures_18 N (iN lo) hi fuel (iN i) (iN (dvN tx i j)) q = some (v, s) ∧ Lx r s ∧ ((gdN tx en i lo hi ∧ v = iN (dvN tx i (dgE tx en i)) ∧ s.1 12 = -1 ∧ s.1 11 = iN (dgE tx en i)) ∨ (¬ gdN tx en i lo hi ∧ s.1 12 = iN i ∧ ∃ j, j ≤ en ∧ s.1 11 = iN j)) := by
    intro d
    induction d with
    | zero =>
      intro j fuel q hj hij hj4 hf hjd hq h12 h11
      obtain ⟨fu, rfl⟩ : ∃ fu, fuel = fu + 1 := ⟨fuel - 1, by omega⟩
      have hT := h.lx hq
      rw [f_R_figures_18, h11, hT.1, if_pos (iN_yle (by omega) (by omega))]
      exact e89 j q hij hj4 hjd (Or.inl (by omega)) hq h12 h11
    | succ d ih =>
      intro j fuel q hj hij hj4 hf hjd hq h12 h11
      obtain ⟨fu, rfl⟩ : ∃ fu, fuel = fu + 1 := ⟨fuel - 1, by omega⟩
      have hT := h.lx hq
      have hjn : j < en := by omega
      rw [f_R_figures_18, h11, hT.1, if_neg (iN_nle hjn (by omega)), letter_eq hT hen hjn, ob, isInD, ob, ob]
      by_cases hd : isD (tx j) = true
      · rw [hd, if_neg (show ¬ b01 true = 0 by decide), iN_sub hij]
        by_cases h3 : 3 < j - i
        · rw [if_pos (show (3 : Int32) < iN (j - i) from iN_ylt (k := 3) h3 (by omega))]
          exact e89 j q hij hj4 hjd (Or.inr (by omega)) hq h12 h11
        · rw [if_neg (show ¬ (3 : Int32) < iN (j - i) from iN_nlt (n := j - i) (k := 3) (by omega) (by decide)), dv_step hij hd, iN_s]
          have hlt : j < dgE tx en i := by
            refine Nat.lt_of_le_of_ne hjd fun he => ?_
            have h7 := sE_at (c := fun j => !isD (tx j)) (en := en) (i := i) (show dgE tx en i < en by omega) hie
            have h8 : (!isD (tx (dgE tx en i))) = true := h7
            rw [← he, hd] at h8
            cases h8
          exact ih (j + 1) fu _ (by omega) (by omega) (by omega) (by omega) hlt (hq.trans (Lx.s11 _ _)) h12 (set_s _ _ _)
      · rw [Bool.eq_false_iff.mpr hd, if_pos (show b01 false = 0 from rfl)]
        refine e89 j q hij hj4 hjd (Or.inl ?_) hq h12 h11
        refine Nat.le_antisymm hjd (Nat.le_of_not_lt fun hlt => hd (dg_all hij hlt))
  have h0 : dvN tx i i = 0 := by unfold dvN; rw [Nat.sub_self]; rfl
  have h1 := key (en - i) i N q (by omega) (Nat.le_refl _) (by omega) (by omega) hdb.1 a2 a3 a4
  rw [h0] at h1
  exact h1
end Tx
