/-! small numbers as ints -/
def iN (n : Nat) : Int32 := Int32.ofNat n
theorem iN_lit (n : Nat) : (OfNat.ofNat n : Int32) = iN n := rfl
theorem iN_add (a b : Nat) : iN a + iN b = iN (a + b) := (Int32.ofNat_add a b).symm
theorem iN_mul (a b : Nat) : iN a * iN b = iN (a * b) := (Int32.ofNat_mul a b).symm
theorem iN_toInt {n : Nat} (h : n < 2147483648) : (iN n).toInt = n := Int32.toInt_ofNat_of_lt h
theorem iN_cl {n : Nat} (h : n < 2147483648) : (iN n).toNatClampNeg = n := by
  show (iN n).toInt.toNat = n
  rw [iN_toInt h]
  exact Int.toNat_natCast n
theorem iN_lt {a b : Nat} (ha : a < 2147483648) (hb : b < 2147483648) : iN a < iN b ↔ a < b := by
  rw [Int32.lt_iff_toInt_lt, iN_toInt ha, iN_toInt hb]
  exact Int.ofNat_lt
theorem iN_le {a b : Nat} (ha : a < 2147483648) (hb : b < 2147483648) : iN a ≤ iN b ↔ a ≤ b := by
  rw [Int32.le_iff_toInt_le, iN_toInt ha, iN_toInt hb]
  exact Int.ofNat_le
theorem iN_inj {a b : Nat} (ha : a < 2147483648) (hb : b < 2147483648) : iN a = iN b ↔ a = b := by
  constructor
  · intro h
    have h2 : (iN a).toInt = (iN b).toInt := by rw [h]
    rw [iN_toInt ha, iN_toInt hb] at h2
    exact Int.ofNat_inj.mp h2
  · intro h
    rw [h]
theorem iN_0 : (0 : Int32) = iN 0 := rfl
theorem iN_1 : (1 : Int32) = iN 1 := rfl
theorem iN_nn {n : Nat} (h : n < 2147483648) : ¬ iN n < 0 := by
  rw [iN_0, iN_lt h (by decide)]
  exact Nat.not_lt_zero n
theorem iN_sub {a b : Nat} (h : b ≤ a) : iN a - iN b = iN (a - b) := by
  have h1 : iN a = iN (a - b) + iN b := by rw [iN_add, Nat.sub_add_cancel h]
  rw [h1]
  exact Int32.add_sub_cancel _ _
/-- an int that isn't negative, as a number -/
theorem iN_of {v : Int32} (h : 0 ≤ v) : v = iN v.toNatClampNeg ∧ v.toNatClampNeg < 2147483648 := by
  have h1 : (0 : Int) ≤ v.toInt := by
    have := Int32.le_iff_toInt_le.mp h
    exact this
  have h2 : v.toInt < 2147483648 := Int32.toInt_lt v
  have h3 : v.toNatClampNeg < 2147483648 := by
    show v.toInt.toNat < 2147483648
    omega
  refine ⟨?_, h3⟩
  apply Int32.toInt_inj.mp
  rw [iN_toInt h3]
  show v.toInt = (v.toInt.toNat : Int)
  omega
theorem inR_iN {k n : Nat} (h : k < n) (hk : k < 2147483648) : inR (iN k) n = true := by
  unfold inR
  refine decide_eq_true ?_
  rintro (h1 | h1)
  · exact iN_nn hk h1
  · rw [iN_cl hk] at h1
    omega
theorem inR_no {i : Int32} {n : Nat} (h : inR i n = true) : 0 ≤ i ∧ i.toNatClampNeg < n := by
  have h1 : ¬ (i < 0 ∨ n ≤ i.toNatClampNeg) := of_decide_eq_true h
  exact ⟨Int32.not_lt.mp fun q => h1 (Or.inl q), Nat.not_le.mp fun q => h1 (Or.inr q)⟩
/-! the model's rows -/
theorem r_len_le (j : Nat) : r_len j ≤ 10800 := by
  unfold r_len
  split <;> omega
theorem rld_iN {r : Rho} {j k : Nat} (h : k < r_len j) : rld r j (iN k) = some (r.2 j k) := by
  have h1 := r_len_le j
  unfold rld
  rw [if_pos (inR_iN h (by omega)), iN_cl (by omega)]
theorem rst_iN {r : Rho} {j k : Nat} {v : Int32} (h : k < r_len j) : rst r j (iN k) v = some (r_st r j k v) := by
  have h1 := r_len_le j
  unfold rst
  rw [if_pos (inR_iN h (by omega)), iN_cl (by omega)]
theorem rld1 {r : Rho} {k : Nat} (h : k < 1300) : rld r 1 (iN k) = some (r.2 1 k) := rld_iN h
theorem rld2 {r : Rho} {k : Nat} (h : k < 1300) : rld r 2 (iN k) = some (r.2 2 k) := rld_iN h
theorem rld4 {r : Rho} {k : Nat} (h : k < 900) : rld r 4 (iN k) = some (r.2 4 k) := rld_iN h
theorem rld5 {r : Rho} {k : Nat} (h : k < 10800) : rld r 5 (iN k) = some (r.2 5 k) := rld_iN h
theorem rld7 {r : Rho} {k : Nat} (h : k < 400) : rld r 7 (iN k) = some (r.2 7 k) := rld_iN h
theorem rst1 {r : Rho} {k : Nat} {v : Int32} (h : k < 1300) : rst r 1 (iN k) v = some (r_st r 1 k v) := rst_iN h
theorem rst2 {r : Rho} {k : Nat} {v : Int32} (h : k < 1300) : rst r 2 (iN k) v = some (r_st r 2 k v) := rst_iN h
theorem rst4 {r : Rho} {k : Nat} {v : Int32} (h : k < 900) : rst r 4 (iN k) v = some (r_st r 4 k v) := rst_iN h
theorem rst5 {r : Rho} {k : Nat} {v : Int32} (h : k < 10800) : rst r 5 (iN k) v = some (r_st r 5 k v) := rst_iN h
theorem rst7 {r : Rho} {k : Nat} {v : Int32} (h : k < 400) : rst r 7 (iN k) v = some (r_st r 7 k v) := rst_iN h
/-! the class's rows -/
theorem ald_iN {M : Mem} {a n k : Nat} (hk : m_kd M a = (1, n)) (h : k < n) (hn : n ≤ 20000) : ald M a (iN k) = some (m_iv M a k) := by
  unfold ald
  rw [hk, if_pos ⟨rfl, inR_iN h (by omega)⟩, iN_cl (by omega)]
theorem ast_iN {M : Mem} {a n k : Nat} {v : Int32} (hk : m_kd M a = (1, n)) (h : k < n) (hn : n ≤ 20000) : ast M a (iN k) v = some (m_setI M a k v) := by
  unfold ast
  rw [hk, if_pos ⟨rfl, inR_iN h (by omega)⟩, iN_cl (by omega)]
theorem ard_iN {M : Mem} {kk a n k : Nat} (hk : m_kd M a = (kk, n)) (h : k < n) (hn : n ≤ 20000) : ard M kk a (iN k) = m_rv M a k := by
  unfold ard
  rw [hk, if_pos ⟨rfl, inR_iN h (by omega)⟩, iN_cl (by omega)]
theorem gI_k {M : Mem} {ci a j : Nat} (hk : (m_kd M a).1 = 10 + ci) : gI M ci a j = some (m_iv M a j) := if_pos hk
theorem gR_k {M : Mem} {ci a j : Nat} (hk : (m_kd M a).1 = 10 + ci) : gR M ci a j = m_rv M a j := if_pos hk
theorem gN_k {M : Mem} {ci a j : Nat} (hk : (m_kd M a).1 = 10 + ci) : gN M ci a j = some (m_rv M a j) := if_pos hk
theorem pI_k {M : Mem} {ci a j : Nat} {v : Int32} (hk : (m_kd M a).1 = 10 + ci) : pI M ci a j v = some (m_setI M a j v) := if_pos hk
theorem pR_k {M : Mem} {ci a j v : Nat} (hk : (m_kd M a).1 = 10 + ci) : pR M ci a j v = some (m_setR M a j (some v)) := if_pos hk
theorem pN_k {M : Mem} {ci a j : Nat} {v : Option Nat} (hk : (m_kd M a).1 = 10 + ci) : pN M ci a j v = some (m_setR M a j v) := if_pos hk
theorem ck_k {M : Mem} {ci a : Nat} (hk : (m_kd M a).1 = 10 + ci) : ck M ci a = some () := if_pos hk
theorem kd_setI (M : Mem) (a j : Nat) (v : Int32) : m_kd (m_setI M a j v) = m_kd M := rfl
theorem kd_setR (M : Mem) (a j : Nat) (v : Option Nat) : m_kd (m_setR M a j v) = m_kd M := rfl
theorem sz_setI (M : Mem) (a j : Nat) (v : Int32) : m_sz (m_setI M a j v) = m_sz M := rfl
theorem sz_setR (M : Mem) (a j : Nat) (v : Option Nat) : m_sz (m_setR M a j v) = m_sz M := rfl
theorem rv_setI (M : Mem) (a j : Nat) (v : Int32) : m_rv (m_setI M a j v) = m_rv M := rfl
theorem iv_setR (M : Mem) (a j : Nat) (v : Option Nat) : m_iv (m_setR M a j v) = m_iv M := rfl
theorem iv_setI (M : Mem) (a j : Nat) (v : Int32) (b k : Nat) : m_iv (m_setI M a j v) b k = if b = a ∧ k = j then v else m_iv M b k := rfl
theorem rv_setR (M : Mem) (a j : Nat) (v : Option Nat) (b k : Nat) : m_rv (m_setR M a j v) b k = if b = a ∧ k = j then v else m_rv M b k := rfl
