/-! bits -/
def ib (v : Int32) (k : Nat) : Bool := v.toBitVec.getLsbD k
theorem ib_ext {a b : Int32} (h : ∀ k, k < 32 → ib a k = ib b k) : a = b := Int32.toBitVec_inj.mp (BitVec.eq_of_getLsbD_eq h)
theorem ib_or (a b : Int32) (k : Nat) : ib (a ||| b) k = (ib a k || ib b k) := by
  unfold ib
  rw [Int32.toBitVec_or, BitVec.getLsbD_or]
theorem ib_and (a b : Int32) (k : Nat) : ib (a &&& b) k = (ib a k && ib b k) := by
  unfold ib
  rw [Int32.toBitVec_and, BitVec.getLsbD_and]
theorem ib_not (a : Int32) {k : Nat} (hk : k < 32) : ib (a ^^^ (-1)) k = !(ib a k) := by
  unfold ib
  rw [Int32.xor_neg_one, Int32.toBitVec_not, BitVec.getLsbD_not, decide_eq_true hk, Bool.true_and]
theorem ib_0 (k : Nat) : ib 0 k = false := by
  unfold ib
  rw [Int32.toBitVec_zero, BitVec.getLsbD_zero]
theorem ib_big (a : Int32) {k : Nat} (hk : 32 ≤ k) : ib a k = false := BitVec.getLsbD_of_ge _ _ hk
theorem ib_1 (k : Nat) : ib 1 k = decide (k = 0) := by
  unfold ib
  rw [Int32.toBitVec_one, BitVec.getLsbD_one]
  simp
theorem shl_all : ∀ o : Fin 32, (1 : Int32) <<< (iN o.val &&& 31) = Int32.ofBitVec (BitVec.twoPow 32 o.val) := by decide +kernel
theorem ib_shl {o : Nat} (ho : o < 32) (k : Nat) : ib ((1 : Int32) <<< (iN o &&& 31)) k = decide (k = o) := by
  have h := shl_all ⟨o, ho⟩
  rw [h]
  unfold ib
  rw [Int32.toBitVec_ofBitVec, BitVec.getLsbD_twoPow, decide_eq_true ho, Bool.true_and]
  exact decide_eq_decide.mpr ⟨fun h => h.symm, fun h => h.symm⟩
theorem sar_all : ∀ o : Fin 32, ((iN o.val &&& 31).toBitVec.smod 32).toNat = o.val := by decide +kernel
theorem ib_sar {o : Nat} (ho : o < 32) (v : Int32) : ib (v >>> (iN o &&& 31)) 0 = ib v o := by
  unfold ib
  rw [Int32.toBitVec_shiftRight, BitVec.getLsbD_sshiftRight']
  have h := sar_all ⟨o, ho⟩
  have h2 : ((iN o &&& 31).toBitVec.smod 32).toNat = o := h
  rw [h2, Nat.add_zero, if_pos ho]
  simp
theorem and1_iff (a : Int32) : a &&& 1 = 1 ↔ ib a 0 = true := by
  constructor
  · intro h
    have h1 : ib (a &&& 1) 0 = true := by rw [h]; rfl
    rw [ib_and, ib_1] at h1
    simpa using h1
  · intro h
    refine ib_ext fun k _ => ?_
    rw [ib_and, ib_1]
    by_cases hk : k = 0
    · rw [hk, h]
      rfl
    · rw [decide_eq_false hk, Bool.and_false]
theorem isIn_iff {o : Nat} (ho : o < 32) (v : Int32) : (v >>> (iN o &&& 31)) &&& 1 = 1 ↔ ib v o = true := by rw [and1_iff, ib_sar ho]
def b01 (b : Bool) : Int32 := if b = true then 1 else 0
theorem b01_t : b01 true = 1 := rfl
theorem b01_f : b01 false = 0 := rfl
theorem b01_0 (b : Bool) : b01 b = 0 ↔ b = false := by cases b <;> decide
theorem b01_or (b : Bool) : b01 b = 0 ∨ b01 b = 1 := by cases b <;> decide
theorem zg_b (b : Bool) : zg (b01 b) = some (b01 b) := by cases b <;> rfl
theorem f_CT_isIn_eq {o : Nat} (ho : o < 32) (v : Int32) : f_CT_isIn v (iN o) = some (b01 (ib v o)) := by
  unfold f_CT_isIn b01
  by_cases h : ib v o = true
  · rw [if_pos ((isIn_iff ho v).mpr h), if_pos h]
  · rw [if_neg (fun q => h ((isIn_iff ho v).mp q)), if_neg h]
theorem f_R_isOf_eq {o : Nat} (ho : o < 32) (v : Int32) : f_R_isOf v (iN o) = some (b01 (ib v o)) := by
  unfold f_R_isOf b01
  by_cases h : ib v o = true
  · rw [if_pos ((isIn_iff ho v).mpr h), if_pos h]
  · rw [if_neg (fun q => h ((isIn_iff ho v).mp q)), if_neg h]
/-- some k below n with f -/
def anyB (f : Nat → Bool) : Nat → Bool
  | 0 => false
  | n + 1 => anyB f n || f n
theorem anyB_iff (f : Nat → Bool) (n : Nat) : anyB f n = true ↔ ∃ k, k < n ∧ f k = true := by
  induction n with
  | zero => exact ⟨fun h => Bool.noConfusion h, fun ⟨k, h, _⟩ => absurd h (Nat.not_lt_zero k)⟩
  | succ n ih =>
    show (anyB f n || f n) = true ↔ _
    rw [Bool.or_eq_true, ih]
    constructor
    · rintro (⟨k, h1, h2⟩ | h)
      · exact ⟨k, by omega, h2⟩
      · exact ⟨n, by omega, h⟩
    · rintro ⟨k, h1, h2⟩
      by_cases hk : k = n
      · exact Or.inr (hk ▸ h2)
      · exact Or.inl ⟨k, by omega, h2⟩
/-- the set of all k below n with f -/
def setB (f : Nat → Bool) : Nat → Int32
  | 0 => 0
  | n + 1 => if f n = true then setB f n ||| ((1 : Int32) <<< (iN n &&& 31)) else setB f n
theorem ib_setB (f : Nat → Bool) {n : Nat} (hn : n ≤ 32) (k : Nat) : ib (setB f n) k = (decide (k < n) && f k) := by
  induction n with
  | zero => rw [show setB f 0 = 0 from rfl, ib_0]; simp
  | succ n ih =>
    have ih := ih (by omega)
    show ib (if f n = true then setB f n ||| ((1 : Int32) <<< (iN n &&& 31)) else setB f n) k = _
    by_cases h : f n = true
    · rw [if_pos h, ib_or, ih, ib_shl (by omega)]
      by_cases hk : k = n
      · subst hk
        simp [h]
      · have h1 : (k < n + 1) ↔ (k < n) := by omega
        simp [hk, h1]
    · rw [if_neg h, ih]
      by_cases hk : k = n
      · subst hk
        simp [h]
      · have h1 : (k < n + 1) ↔ (k < n) := by omega
        simp [h1]
