theorem iN_m1 {n : Nat} (h : n < 2147483648) : iN n ≠ -1 := by
  intro q
  have h1 : (iN n).toInt = (-1 : Int32).toInt := by rw [q]
  rw [iN_toInt h] at h1
  have h2 : (-1 : Int32).toInt = -1 := by decide
  rw [h2] at h1
  omega
theorem iN_div {a b : Nat} (ha : a < 2147483648) (hb : b < 2147483648) : iN a / iN b = iN (a / b) := by
  have h1 : a / b < 2147483648 := Nat.lt_of_le_of_lt (Nat.div_le_self a b) ha
  apply Int32.toInt_inj.mp
  rw [Int32.toInt_div_of_ne_right _ _ (iN_m1 hb), iN_toInt ha, iN_toInt hb, iN_toInt h1]
  exact (Int.ofNat_tdiv a b).symm
theorem iN_mod {a b : Nat} (ha : a < 2147483648) (hb : b < 2147483648) : iN a - iN a / iN b * iN b = iN (a % b) := by
  have h1 : a / b * b ≤ a := Nat.div_mul_le_self a b
  have h2 : a - a / b * b = a % b := by
    have := Nat.div_add_mod a b
    rw [Nat.mul_comm] at this
    omega
  rw [iN_div ha hb, iN_mul, iN_sub h1, h2]
/-! the log: the latest first -/
def lgM (m : Nat → Int32) (w : Nat → Int32) : Nat → Int32 := fun k =>
  if k = 12 then (if m 12 + 1 < 60 then m 12 + 1 else 60) else if k < 420 ∨ 900 ≤ k then m k else if k < 428 then w (k - 420) else m (k - 8)
def lgS (m : Nat → Int32) (j : Nat) : Nat → Int32 := fun k => if 420 + j < k ∧ k < 900 then m (k - 8) else m k
/-- the cells of a row -/
def w8 (a b c d e f g h : Int32) : Nat → Int32
  | 0 => a
  | 1 => b
  | 2 => c
  | 3 => d
  | 4 => e
  | 5 => f
  | 6 => g
  | _ => h
section Lo
variable {r : Rho} {M : Mem} {t N : Nat} {m : Nat → Int32}
theorem lgS_step (m : Nat → Int32) {j : Nat} (h7 : 7 < j) (hj : j < 480) : up1 (lgS m j) (420 + j) (lgS m j (420 + j - 8)) = lgS m (j - 1) := by
  funext k
  unfold lgS
  rw [up1_at]
  by_cases h1 : k = 420 + j
  · subst h1
    rw [if_pos rfl, if_neg (by omega), if_pos (by omega)]
  · by_cases h2 : 420 + j < k ∧ k < 900
    · rw [if_neg h1, if_pos h2, if_pos (by omega)]
    · rw [if_neg h1, if_neg h2, if_neg (by omega)]
theorem f_R_meeting_301_run {x1 x2 x3 x4 x5 x6 x7 x10 x11 : Int32} : ∀ (i fuel : Nat), i ≤ 472 → i < fuel → f_R_meeting_301 N x1 x2 fuel x3 x4 x5 x6 x7 x10 x11 (iN (7 + i)) (setM r (lgS m (7 + i))) = f_R_meeting_301 N x1 x2 (fuel - i) x3 x4 x5 x6 x7 x10 x11 (iN 7) (setM r (lgS m 7)) := by
  intro i
  induction i with
  | zero => intros; rfl
  | succ i ih =>
    intro fuel hi hf
    obtain ⟨fu, rfl⟩ : ∃ fu, fuel = fu + 1 := ⟨fuel - 1, by omega⟩
    have e1 : ¬ iN (7 + (i + 1)) < 8 := iN_nlt (n := 8) (by omega) (by omega)
    have e2 : ((420 : Int32) + iN (7 + (i + 1))) - 8 = iN (420 + (7 + (i + 1)) - 8) := by
      rw [q420, iN_add, q8, iN_sub (by omega)]
    have e3 : (420 : Int32) + iN (7 + (i + 1)) = iN (420 + (7 + (i + 1))) := by rw [q420, iN_add]
    have e4 : iN (7 + (i + 1)) + (-1) = iN (7 + i) := by
      rw [← Int32.sub_eq_add_neg, show (1 : Int32) = iN 1 from rfl, iN_sub (by omega)]
      rfl
    rw [f_R_meeting_301, if_neg e1, e2, rld1 (by omega), ob, e3, rw1 (by omega), ob, e4, setM_m, setM_setM, lgS_step m (by omega) (by omega), show 7 + (i + 1) - 1 = 7 + i by omega, ih fu (by omega) (by omega), show fu + 1 - (i + 1) = fu - i by omega]
theorem f_R_meeting_301_eq {x1 x2 x3 x4 x5 x6 x7 x10 x11 : Int32} (hN : 500 < N) (hb : m 12 = iN (cn m 12) ∧ cn m 12 ≤ 60) (hm : r.2 1 = m) : f_R_meeting_301 N x1 x2 N x3 x4 x5 x6 x7 x10 x11 479 r = some (x7, setM r (lgM m (w8 (m 7) x3 x4 x5 x6 x10 x11 x7))) := by
  have h0 : lgS m 479 = m := by
    funext k
    unfold lgS
    rw [if_neg (by omega)]
  have h1 := f_R_meeting_301_run (N := N) (r := r) (m := m) (x1 := x1) (x2 := x2) (x3 := x3) (x4 := x4) (x5 := x5) (x6 := x6) (x7 := x7) (x10 := x10) (x11 := x11) 472 N (by decide) (by omega)
  rw [show 7 + 472 = 479 from rfl, h0, ← hm, setM_id] at h1
  have h2 : f_R_meeting_301 N x1 x2 N x3 x4 x5 x6 x7 x10 x11 479 r = f_R_meeting_301 N x1 x2 (N - 472) x3 x4 x5 x6 x7 x10 x11 (iN 7) (setM r (lgS (r.2 1) 7)) := h1
  rw [h2, hm]
  obtain ⟨fu, hfu⟩ : ∃ fu, N - 472 = fu + 1 := ⟨N - 472 - 1, by omega⟩
  have e7 : iN 7 < 8 := iN_ylt (n := 8) (by decide) (by decide)
  rw [hfu, f_R_meeting_301, if_pos e7]
  simp only [rlm7, wrm420, wrm421, wrm422, wrm423, wrm424, wrm425, wrm426, wrm427, rlm12, wrm12, setM_m, setM_setM, lesser_eq, ob]
  have e12 : ∀ {f : Nat → Int32} {j : Nat} {v : Int32}, 420 ≤ j → up1 f j v 12 = f 12 := fun h => up1_ne (by omega)
  have e7b : lgS m 7 7 = m 7 := by
    unfold lgS
    rw [if_neg (by omega)]
  have e12b : lgS m 7 12 = m 12 := by
    unfold lgS
    rw [if_neg (by omega)]
  simp only [e12 (show 420 ≤ 420 by decide), e12 (show 420 ≤ 421 by decide), e12 (show 420 ≤ 422 by decide), e12 (show 420 ≤ 423 by decide), e12 (show 420 ≤ 424 by decide), e12 (show 420 ≤ 425 by decide), e12 (show 420 ≤ 426 by decide), e12 (show 420 ≤ 427 by decide), e7b, e12b]
  refine congrArg (fun f => some (x7, setM r f)) ?_
  funext k
  unfold lgM
  simp only [up1_at]
  by_cases h12 : k = 12
  · rw [if_pos h12, if_pos h12]
  · rw [if_neg h12, if_neg h12]
    by_cases ho : k < 420 ∨ 900 ≤ k
    · rw [if_pos ho, if_neg (by omega), if_neg (by omega), if_neg (by omega), if_neg (by omega), if_neg (by omega), if_neg (by omega), if_neg (by omega), if_neg (by omega)]
      unfold lgS
      rw [if_neg (by omega)]
    · rw [if_neg ho]
      by_cases h8 : k < 428
      · rw [if_pos h8]
        have h9 : k = 420 ∨ k = 421 ∨ k = 422 ∨ k = 423 ∨ k = 424 ∨ k = 425 ∨ k = 426 ∨ k = 427 := by omega
        rcases h9 with rfl | rfl | rfl | rfl | rfl | rfl | rfl | rfl <;> rfl
      · rw [if_neg h8, if_neg (by omega), if_neg (by omega), if_neg (by omega), if_neg (by omega), if_neg (by omega), if_neg (by omega), if_neg (by omega), if_neg (by omega)]
        unfold lgS
        rw [if_pos (by omega)]
/-- the class's log: a row is opened, cells are put -/
theorem f_Log_openRow_eq (S : Shape M t) {w : Nat} (hw : w < 60) (h : m_iv M (t + 9) 1 = iN w) : f_Log_openRow (t + 9) M = some (m_setI (m_setI M (t + 9) 1 (iN ((w + 1) % 60))) (t + 9) 0 (if 60 < m_iv M (t + 9) 0 + 1 then 60 else m_iv M (t + 9) 0 + 1)) := by
  unfold f_Log_openRow
  have e : (iN w + 1) - (iN w + 1) / 60 * 60 = iN ((w + 1) % 60) := by
    rw [iN_s]
    exact iN_mod (b := 60) (by omega) (by decide)
  have S2 : Shape (m_setI M (t + 9) 1 (iN ((w + 1) % 60))) t := S.setI
  rw [S.i9, ob, h, e, S.p9, ob, S2.i9, ob, iv_same, up1_ne (by decide), min_eq, ob, S2.p9, ob]
theorem f_Log_put_eq (S : Shape M t) {w c : Nat} (hw : w < 60) (hc : c < 8) (h : m_iv M (t + 9) 1 = iN w) (v : Int32) : f_Log_put (t + 9) (iN c) v M = some (m_setI M (t + 10) (w * 8 + c) v) := by
  unfold f_Log_put
  rw [S.g_cells, ob, S.i9, ob, h, show iN w * 8 + iN c = iN (w * 8 + c) by rw [q8, iN_mul, iN_add], S.s10 (by omega), ob]
end Lo
