/-! how many bits an int has -/
section Bc
theorem land_split {k h l M m : Nat} (hl : l < 256) (hk : k ≤ 8) (hm : m < 2 ^ (8 - k)) : ((256 * h + l) >>> k) &&& (256 * M + m) = 256 * ((h >>> k) &&& M) + ((l >>> k) &&& m) := by
  have hm8 : m < 256 := Nat.lt_of_lt_of_le hm (Nat.pow_le_pow_right (by decide) (show 8 - k ≤ 8 by omega))
  have hr : (l >>> k) &&& m < 256 := Nat.lt_of_le_of_lt Nat.and_le_right hm8
  refine Nat.eq_of_testBit_eq fun j => ?_
  rw [Nat.testBit_and, Nat.testBit_shiftRight, show (256 : Nat) = 2 ^ 8 from rfl, Nat.testBit_two_pow_mul_add _ hl, Nat.testBit_two_pow_mul_add _ hm8, Nat.testBit_two_pow_mul_add _ hr]
  by_cases hj : j < 8
  · rw [if_pos hj, if_pos hj, Nat.testBit_and, Nat.testBit_shiftRight]
    by_cases hjk : k + j < 8
    · rw [if_pos hjk]
    · have : m.testBit j = false := Nat.testBit_lt_two_pow (Nat.lt_of_lt_of_le hm (Nat.pow_le_pow_right (by decide) (by omega)))
      rw [this, Bool.and_false, Bool.and_false]
  · rw [if_neg hj, if_neg hj, if_neg (by omega), Nat.testBit_and, Nat.testBit_shiftRight, show k + j - 8 = k + (j - 8) by omega]
def bA (b : Nat) : Nat := b - ((b >>> 1) &&& 0x55)
def bB (c : Nat) : Nat := (c &&& 0x33) + ((c >>> 2) &&& 0x33)
def bD (b : Nat) : Nat := bB (bA b)
theorem byte_all : ∀ b : Fin 256, ((b.val >>> 1) &&& 0x55) ≤ b.val ∧ bA b.val < 256 ∧ bD b.val % 16 ≤ 4 ∧ bD b.val / 16 ≤ 4 ∧ bD b.val % 16 + bD b.val / 16 = szN b.val ∧ szN b.val ≤ 8 := by decide +kernel
theorem n4 (b0 b1 b2 b3 : Nat) : b0 + 256 * (b1 + 256 * (b2 + 256 * b3)) = 256 * (256 * (256 * b3 + b2) + b1) + b0 := by omega
theorem mask1 {b0 b1 b2 b3 : Nat} (h0 : b0 < 256) (h1 : b1 < 256) (h2 : b2 < 256) : ((256 * (256 * (256 * b3 + b2) + b1) + b0) >>> 1) &&& 1431655765 = 256 * (256 * (256 * ((b3 >>> 1) &&& 85) + ((b2 >>> 1) &&& 85)) + ((b1 >>> 1) &&& 85)) + ((b0 >>> 1) &&& 85) := by
  rw [show (1431655765 : Nat) = 256 * (256 * (256 * 85 + 85) + 85) + 85 from rfl, land_split h0 (by decide) (by decide), land_split h1 (by decide) (by decide), land_split h2 (by decide) (by decide)]
theorem mask2 {b0 b1 b2 b3 k : Nat} (hk : k = 0 ∨ k = 2) (h0 : b0 < 256) (h1 : b1 < 256) (h2 : b2 < 256) : ((256 * (256 * (256 * b3 + b2) + b1) + b0) >>> k) &&& 858993459 = 256 * (256 * (256 * ((b3 >>> k) &&& 51) + ((b2 >>> k) &&& 51)) + ((b1 >>> k) &&& 51)) + ((b0 >>> k) &&& 51) := by
  have hm : 51 < 2 ^ (8 - k) := by rcases hk with rfl | rfl <;> decide
  rw [show (858993459 : Nat) = 256 * (256 * (256 * 51 + 51) + 51) + 51 from rfl, land_split h0 (by omega) hm, land_split h1 (by omega) hm, land_split h2 (by omega) hm]
theorem mask4 {b0 b1 b2 b3 : Nat} (h0 : b0 < 256) (h1 : b1 < 256) (h2 : b2 < 256) : (256 * (256 * (256 * b3 + b2) + b1) + b0) &&& 252645135 = 256 * (256 * (256 * (b3 &&& 15) + (b2 &&& 15)) + (b1 &&& 15)) + (b0 &&& 15) := by
  have h := land_split (k := 0) (h := 256 * (256 * b3 + b2) + b1) (l := b0) (M := 256 * (256 * 15 + 15) + 15) (m := 15) h0 (by decide) (by decide)
  have g := land_split (k := 0) (h := 256 * b3 + b2) (l := b1) (M := 256 * 15 + 15) (m := 15) h1 (by decide) (by decide)
  have f := land_split (k := 0) (h := b3) (l := b2) (M := 15) (m := 15) h2 (by decide) (by decide)
  simp only [Nat.shiftRight_zero] at h g f
  rw [show (252645135 : Nat) = 256 * (256 * (256 * 15 + 15) + 15) + 15 from rfl, h, g, f]
/-- the int's bits, by numbers -/
def bcN (n : Nat) : Nat :=
  let s1 := n - ((n >>> 1) &&& 1431655765)
  let s2 := (s1 &&& 858993459) + ((s1 >>> 2) &&& 858993459)
  let s3 := (s2 + (s2 >>> 4)) &&& 252645135
  let s4 := s3 + (s3 >>> 8)
  (s4 + (s4 >>> 16)) &&& 63
theorem and15 (a : Nat) : a &&& 15 = a % 16 := Nat.and_two_pow_sub_one_eq_mod a 4
theorem and63 (a : Nat) : a &&& 63 = a % 64 := Nat.and_two_pow_sub_one_eq_mod a 6
theorem bcN_eq {b0 b1 b2 b3 : Nat} (h0 : b0 < 256) (h1 : b1 < 256) (h2 : b2 < 256) (h3 : b3 < 256) : bcN (256 * (256 * (256 * b3 + b2) + b1) + b0) = szN b0 + szN b1 + szN b2 + szN b3 := by
  obtain ⟨p0, q0, r0, s0, t0, u0⟩ := byte_all ⟨b0, h0⟩
  obtain ⟨p1, q1, r1, s1, t1, u1⟩ := byte_all ⟨b1, h1⟩
  obtain ⟨p2, q2, r2, s2, t2, u2⟩ := byte_all ⟨b2, h2⟩
  obtain ⟨p3, q3, r3, s3, t3, u3⟩ := byte_all ⟨b3, h3⟩
  dsimp only at p0 q0 r0 s0 t0 u0 p1 q1 r1 s1 t1 u1 p2 q2 r2 s2 t2 u2 p3 q3 r3 s3 t3 u3
  have e1 : (256 * (256 * (256 * b3 + b2) + b1) + b0) - (((256 * (256 * (256 * b3 + b2) + b1) + b0) >>> 1) &&& 1431655765) = 256 * (256 * (256 * bA b3 + bA b2) + bA b1) + bA b0 := by
    rw [mask1 h0 h1 h2]
    unfold bA
    omega
  have e2 : ((256 * (256 * (256 * bA b3 + bA b2) + bA b1) + bA b0) &&& 858993459) + (((256 * (256 * (256 * bA b3 + bA b2) + bA b1) + bA b0) >>> 2) &&& 858993459) = 256 * (256 * (256 * bD b3 + bD b2) + bD b1) + bD b0 := by
    have g := mask2 (k := 0) (b3 := bA b3) (Or.inl rfl) q0 q1 q2
    simp only [Nat.shiftRight_zero] at g
    rw [g, mask2 (k := 2) (Or.inr rfl) q0 q1 q2]
    unfold bD bB
    omega
  unfold bcN
  dsimp only
  rw [e1, e2]
  generalize bD b0 = d0 at *
  generalize bD b1 = d1 at *
  generalize bD b2 = d2 at *
  generalize bD b3 = d3 at *
  have e3 : (256 * (256 * (256 * d3 + d2) + d1) + d0) + ((256 * (256 * (256 * d3 + d2) + d1) + d0) >>> 4) = 256 * (256 * (256 * (d3 + d3 / 16) + (d2 + d2 / 16 + 16 * (d3 % 16))) + (d1 + d1 / 16 + 16 * (d2 % 16))) + (d0 + d0 / 16 + 16 * (d1 % 16)) := by
    rw [Nat.shiftRight_eq_div_pow]
    omega
  rw [e3, mask4 (by omega) (by omega) (by omega), and15, and15, and15, and15]
  have f0 : (d0 + d0 / 16 + 16 * (d1 % 16)) % 16 = szN b0 := by omega
  have f1 : (d1 + d1 / 16 + 16 * (d2 % 16)) % 16 = szN b1 := by omega
  have f2 : (d2 + d2 / 16 + 16 * (d3 % 16)) % 16 = szN b2 := by omega
  have f3 : (d3 + d3 / 16) % 16 = szN b3 := by omega
  rw [f0, f1, f2, f3, and63]
  clear f0 f1 f2 f3 e3 e1 e2
  generalize szN b0 = c0 at *
  generalize szN b1 = c1 at *
  generalize szN b2 = c2 at *
  generalize szN b3 = c3 at *
  have g1 : (256 * (256 * (256 * c3 + c2) + c1) + c0) >>> 8 = 256 * (256 * c3 + c2) + c1 := by
    rw [Nat.shiftRight_eq_div_pow]
    omega
  rw [g1]
  have g2 : (256 * (256 * (256 * c3 + c2) + c1) + c0 + (256 * (256 * c3 + c2) + c1)) >>> 16 = 256 * c3 + (c2 + c3) := by
    rw [Nat.shiftRight_eq_div_pow]
    omega
  rw [g2]
  omega
theorem u_ushr (a : Int32) : (ushr a 1).toBitVec.toNat = a.toBitVec.toNat >>> 1 ∧ (ushr a 2).toBitVec.toNat = a.toBitVec.toNat >>> 2 ∧ (ushr a 4).toBitVec.toNat = a.toBitVec.toNat >>> 4 ∧ (ushr a 8).toBitVec.toNat = a.toBitVec.toNat >>> 8 ∧ (ushr a 16).toBitVec.toNat = a.toBitVec.toNat >>> 16 := ⟨rfl, rfl, rfl, rfl, rfl⟩
theorem u_and (a b : Int32) : (a &&& b).toBitVec.toNat = a.toBitVec.toNat &&& b.toBitVec.toNat := by
  rw [Int32.toBitVec_and, BitVec.toNat_and]
theorem u_sub {a b : Int32} (h : b.toBitVec.toNat ≤ a.toBitVec.toNat) : (a - b).toBitVec.toNat = a.toBitVec.toNat - b.toBitVec.toNat := by
  rw [Int32.toBitVec_sub]
  exact BitVec.toNat_sub_of_le h
theorem u_add {a b : Int32} (h : a.toBitVec.toNat + b.toBitVec.toNat < 4294967296) : (a + b).toBitVec.toNat = a.toBitVec.toNat + b.toBitVec.toNat := by
  rw [Int32.toBitVec_add, BitVec.toNat_add]
  exact Nat.mod_eq_of_lt h
theorem u_iN {a : Int32} {n : Nat} (h : a.toBitVec.toNat = n) : a = iN n := by
  refine Int32.toBitVec_inj.mp (BitVec.eq_of_toNat_eq ?_)
  rw [h]
  show n = n % 2 ^ 32
  have := a.toBitVec.isLt
  omega
theorem bc_nat (a : Int32) : f_Integer_bitCount a = some (iN (bcN a.toBitVec.toNat)) := by
  unfold f_Integer_bitCount
  refine congrArg some (u_iN ?_)
  have hs1 : (a - ((ushr a 1) &&& 1431655765)).toBitVec.toNat = a.toBitVec.toNat - ((a.toBitVec.toNat >>> 1) &&& 1431655765) := by
    have e : ((ushr a 1) &&& 1431655765).toBitVec.toNat = (a.toBitVec.toNat >>> 1) &&& 1431655765 := by rw [u_and, (u_ushr a).1]; rfl
    rw [u_sub, e]
    rw [e]
    refine Nat.le_trans Nat.and_le_left ?_
    rw [Nat.shiftRight_eq_div_pow]
    exact Nat.div_le_self _ _
  generalize a - ((ushr a 1) &&& 1431655765) = s1 at *
  have hs2 : ((s1 &&& 858993459) + ((ushr s1 2) &&& 858993459)).toBitVec.toNat = (s1.toBitVec.toNat &&& 858993459) + ((s1.toBitVec.toNat >>> 2) &&& 858993459) := by
    have e1 : (s1 &&& 858993459).toBitVec.toNat = s1.toBitVec.toNat &&& 858993459 := by rw [u_and]; rfl
    have e2 : ((ushr s1 2) &&& 858993459).toBitVec.toNat = (s1.toBitVec.toNat >>> 2) &&& 858993459 := by rw [u_and, (u_ushr s1).2.1]; rfl
    have l1 : s1.toBitVec.toNat &&& 858993459 ≤ 858993459 := Nat.and_le_right
    have l2 : (s1.toBitVec.toNat >>> 2) &&& 858993459 ≤ 858993459 := Nat.and_le_right
    rw [u_add (by rw [e1, e2]; omega), e1, e2]
  have b2 : ((s1 &&& 858993459) + ((ushr s1 2) &&& 858993459)).toBitVec.toNat ≤ 1717986918 := by
    have l1 : s1.toBitVec.toNat &&& 858993459 ≤ 858993459 := Nat.and_le_right
    have l2 : (s1.toBitVec.toNat >>> 2) &&& 858993459 ≤ 858993459 := Nat.and_le_right
    rw [hs2]
    omega
  generalize (s1 &&& 858993459) + ((ushr s1 2) &&& 858993459) = s2 at *
  have hs3 : ((s2 + (ushr s2 4)) &&& 252645135).toBitVec.toNat = (s2.toBitVec.toNat + (s2.toBitVec.toNat >>> 4)) &&& 252645135 := by
    have e1 : (ushr s2 4).toBitVec.toNat = s2.toBitVec.toNat >>> 4 := (u_ushr s2).2.2.1
    have l1 : s2.toBitVec.toNat >>> 4 ≤ s2.toBitVec.toNat := by rw [Nat.shiftRight_eq_div_pow]; exact Nat.div_le_self _ _
    rw [u_and, u_add (by rw [e1]; omega), e1]
    rfl
  have b3 : ((s2 + (ushr s2 4)) &&& 252645135).toBitVec.toNat ≤ 252645135 := by
    rw [hs3]
    exact Nat.and_le_right
  generalize (s2 + (ushr s2 4)) &&& 252645135 = s3 at *
  have hs4 : (s3 + (ushr s3 8)).toBitVec.toNat = s3.toBitVec.toNat + (s3.toBitVec.toNat >>> 8) := by
    have e1 : (ushr s3 8).toBitVec.toNat = s3.toBitVec.toNat >>> 8 := (u_ushr s3).2.2.2.1
    have l1 : s3.toBitVec.toNat >>> 8 ≤ s3.toBitVec.toNat := by rw [Nat.shiftRight_eq_div_pow]; exact Nat.div_le_self _ _
    rw [u_add (by rw [e1]; omega), e1]
  have b4 : (s3 + (ushr s3 8)).toBitVec.toNat ≤ 505290270 := by
    have l1 : s3.toBitVec.toNat >>> 8 ≤ s3.toBitVec.toNat := by rw [Nat.shiftRight_eq_div_pow]; exact Nat.div_le_self _ _
    rw [hs4]
    omega
  generalize s3 + (ushr s3 8) = s4 at *
  have hs5 : ((s4 + (ushr s4 16)) &&& 63).toBitVec.toNat = (s4.toBitVec.toNat + (s4.toBitVec.toNat >>> 16)) &&& 63 := by
    have e1 : (ushr s4 16).toBitVec.toNat = s4.toBitVec.toNat >>> 16 := (u_ushr s4).2.2.2.2
    have l1 : s4.toBitVec.toNat >>> 16 ≤ s4.toBitVec.toNat := by rw [Nat.shiftRight_eq_div_pow]; exact Nat.div_le_self _ _
    rw [u_and, u_add (by rw [e1]; omega), e1]
    rfl
  rw [hs5, hs4, hs3, hs2, hs1]
  rfl
/-- bits of a number -/
theorem tb_all : ∀ b : Fin 256, szN b.val = ctB (fun i => b.val.testBit i) 8 := by decide +kernel
theorem ctB_add (f : Nat → Bool) (a b : Nat) : ctB f (a + b) = ctB f a + ctB (fun i => f (a + i)) b := by
  induction b with
  | zero => rfl
  | succ b ih =>
    show ctB f (a + b + 1) = _
    rw [ctB_s, ctB_s, ih, Nat.add_assoc]
theorem byte_at (n k : Nat) : ctB (fun i => n.testBit (k + i)) 8 = szN (n / 2 ^ k % 256) := by
  rw [tb_all ⟨n / 2 ^ k % 256, Nat.mod_lt _ (by decide)⟩]
  refine ctB_congr fun i hi => ?_
  dsimp only
  rw [show (256 : Nat) = 2 ^ 8 from rfl, Nat.testBit_mod_two_pow, decide_eq_true hi, Bool.true_and, ← Nat.shiftRight_eq_div_pow, Nat.testBit_shiftRight]
theorem bitCount_ct (a : Int32) : f_Integer_bitCount a = some (iN (ctB (ib a) 32)) := by
  have ha : a.toBitVec.toNat < 4294967296 := a.toBitVec.isLt
  rw [bc_nat]
  refine congrArg (fun n => some (iN n)) ?_
  have e : ib a = fun i => a.toBitVec.toNat.testBit i := funext fun i => rfl
  rw [e]
  generalize a.toBitVec.toNat = n at *
  have e2 : ctB (fun i => n.testBit i) 32 = szN (n / 2 ^ 0 % 256) + szN (n / 2 ^ 8 % 256) + szN (n / 2 ^ 16 % 256) + szN (n / 2 ^ 24 % 256) := by
    rw [← byte_at n 0, ← byte_at n 8, ← byte_at n 16, ← byte_at n 24, show (32 : Nat) = ((8 + 8) + 8) + 8 from rfl, ctB_add, ctB_add, ctB_add]
    simp only [Nat.zero_add]
  rw [e2]
  have e3 : n = 256 * (256 * (256 * (n / 2 ^ 24 % 256) + n / 2 ^ 16 % 256) + n / 2 ^ 8 % 256) + n / 2 ^ 0 % 256 := by omega
  refine (congrArg bcN e3).trans (bcN_eq (Nat.mod_lt _ (by decide)) (Nat.mod_lt _ (by decide)) (Nat.mod_lt _ (by decide)) (Nat.mod_lt _ (by decide)))
/-- one bit more -/
theorem ct_or (a : Int32) {g : Nat} (hg : g < 32) : ctB (ib (a ||| ((1 : Int32) <<< (iN g &&& 31)))) 32 = ctB (ib a) 32 + (if ib a g = true then 0 else 1) := by
  have key : ∀ n, ctB (ib (a ||| ((1 : Int32) <<< (iN g &&& 31)))) n = ctB (ib a) n + (if g < n then (if ib a g = true then 0 else 1) else 0) := by
    intro n
    induction n with
    | zero => rfl
    | succ n ih =>
      rw [ctB_s, ctB_s, ih, ib_or, ib_shl hg]
      by_cases h : n = g
      · subst h
        rw [if_neg (Nat.lt_irrefl _), if_pos (Nat.lt_succ_self _), decide_eq_true rfl, Bool.or_true, if_pos rfl]
        by_cases h2 : ib a n = true
        · rw [if_pos h2, if_pos h2]
        · rw [if_neg h2, if_neg h2]
      · rw [decide_eq_false h, Bool.or_false]
        by_cases h2 : g < n
        · have h3 : g < n + 1 := by omega
          rw [if_pos h2, if_pos h3]; omega
        · have h3 : ¬ g < n + 1 := by omega
          rw [if_neg h2, if_neg h3]; omega
  rw [key 32, if_pos hg]
end Bc
