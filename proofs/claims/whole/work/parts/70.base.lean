/-! small numbers as ints -/
def iN (n : Nat) : Int32 := Int32.ofNat n
theorem iN_lit (n : Nat) : (OfNat.ofNat n : Int32) = iN n := rfl
theorem iN_add (a b : Nat) : iN a + iN b = iN (a + b) := (Int32.ofNat_add a b).symm
theorem iN_mul (a b : Nat) : iN a * iN b = iN (a * b) := (Int32.ofNat_mul a b).symm
theorem iN_toInt {n : Nat} (h : n < 2147483648) : (iN n).toInt = n := Int32.toInt_ofNat_of_lt h
theorem iN_cl {n : Nat} (h : n < 2147483648) : (iN n).toNatClampNeg = n := by
  show (iN n).toInt.toNat = n
  rw [iN_toInt h]
  exact Int.toNat_natCast n
theorem iN_lt {a b : Nat} (ha : a < 2147483648) (hb : b < 2147483648) : iN a < iN b ↔ a < b := by
  rw [Int32.lt_iff_toInt_lt, iN_toInt ha, iN_toInt hb]
  exact Int.ofNat_lt
theorem iN_le {a b : Nat} (ha : a < 2147483648) (hb : b < 2147483648) : iN a ≤ iN b ↔ a ≤ b := by
  rw [Int32.le_iff_toInt_le, iN_toInt ha, iN_toInt hb]
  exact Int.ofNat_le
theorem iN_inj {a b : Nat} (ha : a < 2147483648) (hb : b < 2147483648) : iN a = iN b ↔ a = b := by
  constructor
  · intro h
    have h2 : (iN a).toInt = (iN b).toInt := by rw [h]
    rw [iN_toInt ha, iN_toInt hb] at h2
    exact Int.ofNat_inj.mp h2
  · intro h
    rw [h]
theorem iN_0 : (0 : Int32) = iN 0 := rfl
theorem iN_1 : (1 : Int32) = iN 1 := rfl
theorem iN_nn {n : Nat} (h : n < 2147483648) : ¬ iN n < 0 := by
  rw [iN_0, iN_lt h (by decide)]
  exact Nat.not_lt_zero n
theorem iN_sub {a b : Nat} (h : b ≤ a) : iN a - iN b = iN (a - b) := by
  have h1 : iN a = iN (a - b) + iN b := by rw [iN_add, Nat.sub_add_cancel h]
  rw [h1]
  exact Int32.add_sub_cancel _ _
/-- an int that isn't negative, as a number -/
theorem iN_of {v : Int32} (h : 0 ≤ v) : v = iN v.toNatClampNeg ∧ v.toNatClampNeg < 2147483648 := by
  have h1 : (0 : Int) ≤ v.toInt := by
    have := Int32.le_iff_toInt_le.mp h
    exact this
  have h2 : v.toInt < 2147483648 := Int32.toInt_lt v
  have h3 : v.toNatClampNeg < 2147483648 := by
    show v.toInt.toNat < 2147483648
    omega
  refine ⟨?_, h3⟩
  apply Int32.toInt_inj.mp
  rw [iN_toInt h3]
  show v.toInt = (v.toInt.toNat : Int)
  omega
theorem inR_iN {k n : Nat} (h : k < n) (hk : k < 2147483648) : inR (iN k) n = true := by
  unfold inR
  refine decide_eq_true ?_
  rintro (h1 | h1)
  · exact iN_nn hk h1
  · rw [iN_cl hk] at h1
    omega
theorem inR_no {i : Int32} {n : Nat} (h : inR i n = true) : 0 ≤ i ∧ i.toNatClampNeg < n := by
  have h1 : ¬ (i < 0 ∨ n ≤ i.toNatClampNeg) := of_decide_eq_true h
  exact ⟨Int32.not_lt.mp fun q => h1 (Or.inl q), Nat.not_le.mp fun q => h1 (Or.inr q)⟩
/-! the model's rows -/
theorem r_len_le (j : Nat) : r_len j ≤ 10800 := by
  unfold r_len
  split <;> omega
theorem rld_iN {r : Rho} {j k : Nat} (h : k < r_len j) : rld r j (iN k) = some (r.2 j k) := by
  have h1 := r_len_le j
  unfold rld
  rw [if_pos (inR_iN h (by omega)), iN_cl (by omega)]
theorem rst_iN {r : Rho} {j k : Nat} {v : Int32} (h : k < r_len j) : rst r j (iN k) v = some (r_st r j k v) := by
  have h1 := r_len_le j
  unfold rst
  rw [if_pos (inR_iN h (by omega)), iN_cl (by omega)]
theorem rld1 {r : Rho} {k : Nat} (h : k < 1300) : rld r 1 (iN k) = some (r.2 1 k) := rld_iN h
theorem rld2 {r : Rho} {k : Nat} (h : k < 1300) : rld r 2 (iN k) = some (r.2 2 k) := rld_iN h
theorem rld4 {r : Rho} {k : Nat} (h : k < 900) : rld r 4 (iN k) = some (r.2 4 k) := rld_iN h
theorem rld5 {r : Rho} {k : Nat} (h : k < 10800) : rld r 5 (iN k) = some (r.2 5 k) := rld_iN h
theorem rld7 {r : Rho} {k : Nat} (h : k < 400) : rld r 7 (iN k) = some (r.2 7 k) := rld_iN h
theorem rst1 {r : Rho} {k : Nat} {v : Int32} (h : k < 1300) : rst r 1 (iN k) v = some (r_st r 1 k v) := rst_iN h
theorem rst2 {r : Rho} {k : Nat} {v : Int32} (h : k < 1300) : rst r 2 (iN k) v = some (r_st r 2 k v) := rst_iN h
theorem rst4 {r : Rho} {k : Nat} {v : Int32} (h : k < 900) : rst r 4 (iN k) v = some (r_st r 4 k v) := rst_iN h
theorem rst5 {r : Rho} {k : Nat} {v : Int32} (h : k < 10800) : rst r 5 (iN k) v = some (r_st r 5 k v) := rst_iN h
theorem rst7 {r : Rho} {k : Nat} {v : Int32} (h : k < 400) : rst r 7 (iN k) v = some (r_st r 7 k v) := rst_iN h
/-! the class's rows -/
theorem ald_iN {M : Mem} {a n k : Nat} (hk : m_kd M a = (1, n)) (h : k < n) (hn : n ≤ 20000) : ald M a (iN k) = some (m_iv M a k) := by
  unfold ald
  rw [hk, if_pos ⟨rfl, inR_iN h (by omega)⟩, iN_cl (by omega)]
theorem ast_iN {M : Mem} {a n k : Nat} {v : Int32} (hk : m_kd M a = (1, n)) (h : k < n) (hn : n ≤ 20000) : ast M a (iN k) v = some (m_setI M a k v) := by
  unfold ast
  rw [hk, if_pos ⟨rfl, inR_iN h (by omega)⟩, iN_cl (by omega)]
theorem ard_iN {M : Mem} {kk a n k : Nat} (hk : m_kd M a = (kk, n)) (h : k < n) (hn : n ≤ 20000) : ard M kk a (iN k) = m_rv M a k := by
  unfold ard
  rw [hk, if_pos ⟨rfl, inR_iN h (by omega)⟩, iN_cl (by omega)]
theorem gI_k {M : Mem} {ci a j : Nat} (hk : (m_kd M a).1 = 10 + ci) : gI M ci a j = some (m_iv M a j) := if_pos hk
theorem gR_k {M : Mem} {ci a j : Nat} (hk : (m_kd M a).1 = 10 + ci) : gR M ci a j = m_rv M a j := if_pos hk
theorem gN_k {M : Mem} {ci a j : Nat} (hk : (m_kd M a).1 = 10 + ci) : gN M ci a j = some (m_rv M a j) := if_pos hk
theorem pI_k {M : Mem} {ci a j : Nat} {v : Int32} (hk : (m_kd M a).1 = 10 + ci) : pI M ci a j v = some (m_setI M a j v) := if_pos hk
theorem pR_k {M : Mem} {ci a j v : Nat} (hk : (m_kd M a).1 = 10 + ci) : pR M ci a j v = some (m_setR M a j (some v)) := if_pos hk
theorem pN_k {M : Mem} {ci a j : Nat} {v : Option Nat} (hk : (m_kd M a).1 = 10 + ci) : pN M ci a j v = some (m_setR M a j v) := if_pos hk
theorem ck_k {M : Mem} {ci a : Nat} (hk : (m_kd M a).1 = 10 + ci) : ck M ci a = some () := if_pos hk
theorem kd_setI (M : Mem) (a j : Nat) (v : Int32) : m_kd (m_setI M a j v) = m_kd M := rfl
theorem kd_setR (M : Mem) (a j : Nat) (v : Option Nat) : m_kd (m_setR M a j v) = m_kd M := rfl
theorem sz_setI (M : Mem) (a j : Nat) (v : Int32) : m_sz (m_setI M a j v) = m_sz M := rfl
theorem sz_setR (M : Mem) (a j : Nat) (v : Option Nat) : m_sz (m_setR M a j v) = m_sz M := rfl
theorem rv_setI (M : Mem) (a j : Nat) (v : Int32) : m_rv (m_setI M a j v) = m_rv M := rfl
theorem iv_setR (M : Mem) (a j : Nat) (v : Option Nat) : m_iv (m_setR M a j v) = m_iv M := rfl
theorem iv_setI (M : Mem) (a j : Nat) (v : Int32) (b k : Nat) : m_iv (m_setI M a j v) b k = if b = a ∧ k = j then v else m_iv M b k := rfl
theorem rv_setR (M : Mem) (a j : Nat) (v : Option Nat) (b k : Nat) : m_rv (m_setR M a j v) b k = if b = a ∧ k = j then v else m_rv M b k := rfl
/-! small rows for rewriting -/
theorem ob {α β : Type} (a : α) (f : α → Option β) : (some a).bind f = f a := rfl
theorem sx_l {α γ : Type} (v : α) (f : α → γ) (g : String → γ) : sx (.inl v) f g = f v := rfl
theorem sx_r {α γ : Type} (e : String) (f : α → γ) (g : String → γ) : sx (.inr e : α ⊕ String) f g = g e := rfl
theorem iN_s (k : Nat) : iN k + 1 = iN (k + 1) := iN_add k 1
theorem iN_nle {k n : Nat} (h : k < n) (hn : n < 2147483648) : ¬ iN n ≤ iN k := by
  rw [iN_le hn (by omega)]
  omega
theorem iN_yle {k n : Nat} (h : n ≤ k) (hk : k < 2147483648) : iN n ≤ iN k := by
  rw [iN_le (by omega) hk]
  exact h
theorem iN_ylt {k n : Nat} (h : k < n) (hn : n < 2147483648) : iN k < iN n := by
  rw [iN_lt (by omega) hn]
  exact h
theorem iN_nlt {k n : Nat} (h : n ≤ k) (hk : k < 2147483648) : ¬ iN k < iN n := by
  rw [iN_lt hk (by omega)]
  omega
theorem iN_ne {a b : Nat} (h : a ≠ b) (ha : a < 2147483648) (hb : b < 2147483648) : iN a ≠ iN b := fun q => h ((iN_inj ha hb).mp q)
theorem i_nle {a b : Int32} : ¬ a ≤ b ↔ b < a := Int32.not_le
theorem i_nlt {a b : Int32} : ¬ a < b ↔ b ≤ a := Int32.not_lt
theorem i_le_rfl (a : Int32) : a ≤ a := Int32.le_refl a
theorem zg0 : zg 0 = some 0 := rfl
theorem zg1 : zg 1 = some 1 := rfl
theorem up1_same {α : Type} (f : Nat → α) (j : Nat) (v : α) : up1 f j v j = v := if_pos rfl
theorem up1_ne {α : Type} {f : Nat → α} {j k : Nat} {v : α} (h : k ≠ j) : up1 f j v k = f k := if_neg h
theorem up1_at {α : Type} (f : Nat → α) (j : Nat) (v : α) (k : Nat) : up1 f j v k = if k = j then v else f k := rfl
/-! the model's main row, put anew -/
def setM (r : Rho) (m : Nat → Int32) : Rho := (r.1, fun j => if j = 1 then m else r.2 j)
theorem setM_m (r : Rho) (m : Nat → Int32) : (setM r m).2 1 = m := rfl
theorem setM_1 (r : Rho) (m : Nat → Int32) : (setM r m).1 = r.1 := rfl
theorem setM_2 {r : Rho} {m : Nat → Int32} {j : Nat} (h : j ≠ 1) : (setM r m).2 j = r.2 j := if_neg h
theorem setM_id (r : Rho) : setM r (r.2 1) = r := by
  refine Prod.ext rfl (funext fun j => ?_)
  show (if j = 1 then r.2 1 else r.2 j) = r.2 j
  by_cases h : j = 1
  · rw [if_pos h, h]
  · rw [if_neg h]
theorem setM_setM (r : Rho) (a b : Nat → Int32) : setM (setM r a) b = setM r b := by
  refine Prod.ext rfl (funext fun j => ?_)
  show (if j = 1 then b else (if j = 1 then a else r.2 j)) = (if j = 1 then b else r.2 j)
  by_cases h : j = 1
  · rw [if_pos h, if_pos h]
  · rw [if_neg h, if_neg h, if_neg h]
theorem st_setM (r : Rho) (i : Nat) (v : Int32) : r_st r 1 i v = setM r (up1 (r.2 1) i v) := by
  refine Prod.ext rfl (funext fun j => funext fun k => ?_)
  show (if j = 1 ∧ k = i then v else r.2 j k) = (if j = 1 then up1 (r.2 1) i v else r.2 j) k
  by_cases h : j = 1
  · rw [if_pos h, up1_at]
    by_cases h2 : k = i
    · rw [if_pos ⟨h, h2⟩, if_pos h2]
    · rw [if_neg (fun q => h2 q.2), if_neg h2, h]
  · rw [if_neg (fun q => h q.1), if_neg h]
theorem rw1 {r : Rho} {k : Nat} {v : Int32} (h : k < 1300) : rst r 1 (iN k) v = some (setM r (up1 (r.2 1) k v)) := by rw [rst1 h, st_setM]
theorem rlm0 (r : Rho) : rld r 1 0 = some (r.2 1 0) := rld1 (k := 0) (by decide)
theorem rlm1 (r : Rho) : rld r 1 1 = some (r.2 1 1) := rld1 (k := 1) (by decide)
theorem rlm2 (r : Rho) : rld r 1 2 = some (r.2 1 2) := rld1 (k := 2) (by decide)
theorem rlm3 (r : Rho) : rld r 1 3 = some (r.2 1 3) := rld1 (k := 3) (by decide)
theorem rlm4 (r : Rho) : rld r 1 4 = some (r.2 1 4) := rld1 (k := 4) (by decide)
theorem rlm5 (r : Rho) : rld r 1 5 = some (r.2 1 5) := rld1 (k := 5) (by decide)
theorem rlm6 (r : Rho) : rld r 1 6 = some (r.2 1 6) := rld1 (k := 6) (by decide)
theorem rlm7 (r : Rho) : rld r 1 7 = some (r.2 1 7) := rld1 (k := 7) (by decide)
theorem rlm8 (r : Rho) : rld r 1 8 = some (r.2 1 8) := rld1 (k := 8) (by decide)
theorem rlm9 (r : Rho) : rld r 1 9 = some (r.2 1 9) := rld1 (k := 9) (by decide)
theorem rlm10 (r : Rho) : rld r 1 10 = some (r.2 1 10) := rld1 (k := 10) (by decide)
theorem rlm11 (r : Rho) : rld r 1 11 = some (r.2 1 11) := rld1 (k := 11) (by decide)
theorem rlm12 (r : Rho) : rld r 1 12 = some (r.2 1 12) := rld1 (k := 12) (by decide)
theorem rlm13 (r : Rho) : rld r 1 13 = some (r.2 1 13) := rld1 (k := 13) (by decide)
theorem rlm14 (r : Rho) : rld r 1 14 = some (r.2 1 14) := rld1 (k := 14) (by decide)
theorem rlm15 (r : Rho) : rld r 1 15 = some (r.2 1 15) := rld1 (k := 15) (by decide)
theorem rlm16 (r : Rho) : rld r 1 16 = some (r.2 1 16) := rld1 (k := 16) (by decide)
theorem rlm420 (r : Rho) : rld r 1 420 = some (r.2 1 420) := rld1 (k := 420) (by decide)
theorem rlm421 (r : Rho) : rld r 1 421 = some (r.2 1 421) := rld1 (k := 421) (by decide)
theorem rlm422 (r : Rho) : rld r 1 422 = some (r.2 1 422) := rld1 (k := 422) (by decide)
theorem rlm423 (r : Rho) : rld r 1 423 = some (r.2 1 423) := rld1 (k := 423) (by decide)
theorem rlm424 (r : Rho) : rld r 1 424 = some (r.2 1 424) := rld1 (k := 424) (by decide)
theorem rlm425 (r : Rho) : rld r 1 425 = some (r.2 1 425) := rld1 (k := 425) (by decide)
theorem rlm426 (r : Rho) : rld r 1 426 = some (r.2 1 426) := rld1 (k := 426) (by decide)
theorem rlm427 (r : Rho) : rld r 1 427 = some (r.2 1 427) := rld1 (k := 427) (by decide)
theorem wrm0 (r : Rho) (v : Int32) : rst r 1 0 v = some (setM r (up1 (r.2 1) 0 v)) := rw1 (k := 0) (by decide)
theorem wrm1 (r : Rho) (v : Int32) : rst r 1 1 v = some (setM r (up1 (r.2 1) 1 v)) := rw1 (k := 1) (by decide)
theorem wrm2 (r : Rho) (v : Int32) : rst r 1 2 v = some (setM r (up1 (r.2 1) 2 v)) := rw1 (k := 2) (by decide)
theorem wrm3 (r : Rho) (v : Int32) : rst r 1 3 v = some (setM r (up1 (r.2 1) 3 v)) := rw1 (k := 3) (by decide)
theorem wrm4 (r : Rho) (v : Int32) : rst r 1 4 v = some (setM r (up1 (r.2 1) 4 v)) := rw1 (k := 4) (by decide)
theorem wrm5 (r : Rho) (v : Int32) : rst r 1 5 v = some (setM r (up1 (r.2 1) 5 v)) := rw1 (k := 5) (by decide)
theorem wrm6 (r : Rho) (v : Int32) : rst r 1 6 v = some (setM r (up1 (r.2 1) 6 v)) := rw1 (k := 6) (by decide)
theorem wrm7 (r : Rho) (v : Int32) : rst r 1 7 v = some (setM r (up1 (r.2 1) 7 v)) := rw1 (k := 7) (by decide)
theorem wrm8 (r : Rho) (v : Int32) : rst r 1 8 v = some (setM r (up1 (r.2 1) 8 v)) := rw1 (k := 8) (by decide)
theorem wrm9 (r : Rho) (v : Int32) : rst r 1 9 v = some (setM r (up1 (r.2 1) 9 v)) := rw1 (k := 9) (by decide)
theorem wrm10 (r : Rho) (v : Int32) : rst r 1 10 v = some (setM r (up1 (r.2 1) 10 v)) := rw1 (k := 10) (by decide)
theorem wrm11 (r : Rho) (v : Int32) : rst r 1 11 v = some (setM r (up1 (r.2 1) 11 v)) := rw1 (k := 11) (by decide)
theorem wrm12 (r : Rho) (v : Int32) : rst r 1 12 v = some (setM r (up1 (r.2 1) 12 v)) := rw1 (k := 12) (by decide)
theorem wrm13 (r : Rho) (v : Int32) : rst r 1 13 v = some (setM r (up1 (r.2 1) 13 v)) := rw1 (k := 13) (by decide)
theorem wrm14 (r : Rho) (v : Int32) : rst r 1 14 v = some (setM r (up1 (r.2 1) 14 v)) := rw1 (k := 14) (by decide)
theorem wrm15 (r : Rho) (v : Int32) : rst r 1 15 v = some (setM r (up1 (r.2 1) 15 v)) := rw1 (k := 15) (by decide)
theorem wrm16 (r : Rho) (v : Int32) : rst r 1 16 v = some (setM r (up1 (r.2 1) 16 v)) := rw1 (k := 16) (by decide)
theorem wrm420 (r : Rho) (v : Int32) : rst r 1 420 v = some (setM r (up1 (r.2 1) 420 v)) := rw1 (k := 420) (by decide)
theorem wrm421 (r : Rho) (v : Int32) : rst r 1 421 v = some (setM r (up1 (r.2 1) 421 v)) := rw1 (k := 421) (by decide)
theorem wrm422 (r : Rho) (v : Int32) : rst r 1 422 v = some (setM r (up1 (r.2 1) 422 v)) := rw1 (k := 422) (by decide)
theorem wrm423 (r : Rho) (v : Int32) : rst r 1 423 v = some (setM r (up1 (r.2 1) 423 v)) := rw1 (k := 423) (by decide)
theorem wrm424 (r : Rho) (v : Int32) : rst r 1 424 v = some (setM r (up1 (r.2 1) 424 v)) := rw1 (k := 424) (by decide)
theorem wrm425 (r : Rho) (v : Int32) : rst r 1 425 v = some (setM r (up1 (r.2 1) 425 v)) := rw1 (k := 425) (by decide)
theorem wrm426 (r : Rho) (v : Int32) : rst r 1 426 v = some (setM r (up1 (r.2 1) 426 v)) := rw1 (k := 426) (by decide)
theorem wrm427 (r : Rho) (v : Int32) : rst r 1 427 v = some (setM r (up1 (r.2 1) 427 v)) := rw1 (k := 427) (by decide)
theorem q0 : (0 : Int32) = iN 0 := rfl
theorem q1 : (1 : Int32) = iN 1 := rfl
theorem q2 : (2 : Int32) = iN 2 := rfl
theorem q3 : (3 : Int32) = iN 3 := rfl
theorem q4 : (4 : Int32) = iN 4 := rfl
theorem q5 : (5 : Int32) = iN 5 := rfl
theorem q6 : (6 : Int32) = iN 6 := rfl
theorem q7 : (7 : Int32) = iN 7 := rfl
theorem q8 : (8 : Int32) = iN 8 := rfl
theorem q10 : (10 : Int32) = iN 10 := rfl
theorem q20 : (20 : Int32) = iN 20 := rfl
theorem q92 : (92 : Int32) = iN 92 := rfl
theorem q172 : (172 : Int32) = iN 172 := rfl
theorem q272 : (272 : Int32) = iN 272 := rfl
theorem q372 : (372 : Int32) = iN 372 := rfl
theorem q420 : (420 : Int32) = iN 420 := rfl
theorem q900 : (900 : Int32) = iN 900 := rfl
/-! loops that go on: j turns from k on -/
def lp {σ : Type} (f : Nat → σ → σ) : Nat → Nat → σ → σ
  | 0, _, z => z
  | j + 1, k, z => lp f j (k + 1) (f k z)
theorem lp_congr {σ : Type} {f g : Nat → σ → σ} {n : Nat} (h : ∀ k z, k < n → f k z = g k z) : ∀ (j k : Nat) (z : σ), k + j ≤ n → lp f j k z = lp g j k z := by
  intro j
  induction j with
  | zero => intros; rfl
  | succ j ih =>
    intro k z hk
    show lp f j (k + 1) (f k z) = lp g j (k + 1) (g k z)
    rw [h k z (by omega), ih (k + 1) (g k z) (by omega)]
theorem lp_snoc {σ : Type} (f : Nat → σ → σ) : ∀ (j k : Nat) (z : σ), lp f (j + 1) k z = f (k + j) (lp f j k z) := by
  intro j
  induction j with
  | zero => intros; rfl
  | succ j ih =>
    intro k z
    show lp f (j + 1) (k + 1) (f k z) = f (k + (j + 1)) (lp f j (k + 1) (f k z))
    rw [ih (k + 1) (f k z), show k + 1 + j = k + (j + 1) by omega]
/-- a loop from k to n: its end and its turn say all -/
theorem lp_run {σ α : Type} {F : Nat → Nat → σ → α} {f : Nat → σ → σ} {fin : σ → α} {n : Nat} (hend : ∀ fuel z, F (fuel + 1) n z = fin z) (hstep : ∀ fuel k z, k < n → F (fuel + 1) k z = F fuel (k + 1) (f k z)) :
    ∀ (j k : Nat) (z : σ) (fuel : Nat), k + j = n → j < fuel → F fuel k z = fin (lp f j k z) := by
  intro j
  induction j with
  | zero =>
    intro k z fuel hk hf
    obtain ⟨fu, rfl⟩ : ∃ fu, fuel = fu + 1 := ⟨fuel - 1, by omega⟩
    rw [show k = n by omega]
    exact hend fu z
  | succ j ih =>
    intro k z fuel hk hf
    obtain ⟨fu, rfl⟩ : ∃ fu, fuel = fu + 1 := ⟨fuel - 1, by omega⟩
    rw [hstep fu k z (by omega)]
    exact ih (k + 1) (f k z) fu (by omega) (by omega)
/-- .. where something holds all along -/
theorem lp_runP {σ α : Type} {F : Nat → Nat → σ → α} {f : Nat → σ → σ} {fin : σ → α} {n : Nat} {P : Nat → σ → Prop} (hend : ∀ fuel z, P n z → F (fuel + 1) n z = fin z) (hstep : ∀ fuel k z, k < n → P k z → F (fuel + 1) k z = F fuel (k + 1) (f k z) ∧ P (k + 1) (f k z)) :
    ∀ (j k : Nat) (z : σ) (fuel : Nat), k + j = n → j < fuel → P k z → F fuel k z = fin (lp f j k z) ∧ P n (lp f j k z) := by
  intro j
  induction j with
  | zero =>
    intro k z fuel hk hf hP
    obtain ⟨fu, rfl⟩ : ∃ fu, fuel = fu + 1 := ⟨fuel - 1, by omega⟩
    obtain rfl : k = n := by omega
    exact ⟨hend fu z hP, hP⟩
  | succ j ih =>
    intro k z fuel hk hf hP
    obtain ⟨fu, rfl⟩ : ∃ fu, fuel = fu + 1 := ⟨fuel - 1, by omega⟩
    obtain ⟨h1, h2⟩ := hstep fu k z (by omega) hP
    rw [h1]
    exact ih (k + 1) (f k z) fu (by omega) (by omega) h2
