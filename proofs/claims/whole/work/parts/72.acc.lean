/-! the model's cells by their names -/
def pC (m : Nat → Int32) (p j : Nat) : Int32 := m (92 + 8 * p + j)
def mt (m : Nat → Int32) (p o : Nat) : Int32 := m (172 + 10 * p + o)
def swC (m : Nat → Int32) (p o : Nat) : Int32 := m (272 + 10 * p + o)
def tA (m : Nat → Int32) (k : Nat) : Int32 := m (372 + 2 * k)
def tB (m : Nat → Int32) (k : Nat) : Int32 := m (372 + 2 * k + 1)
def lgc (m : Nat → Int32) (ago w : Nat) : Int32 := m (420 + 8 * ago + w)
def cn (m : Nat → Int32) (j : Nat) : Nat := (m j).toNatClampNeg
section Ac
variable {r : Rho} {p o k : Nat}
theorem of0 (hp : p < 10) : f_R_of (iN p) 0 r = some (pC (r.2 1) p 0) := by
  unfold f_R_of pC
  rw [show ((92 : Int32) + 8 * iN p) + 0 = iN (92 + 8 * p + 0) by simp only [q0, q1, q2, q3, q4, q5, q6, q7, q8, q10, q20, q92, q172, q272, q372, q420, q900, iN_mul, iN_add], rld1 (by omega)]
  rfl
theorem has0 (hp : p < 10) (v : Int32) : f_R_has (iN p) 0 v r = some (setM r (up1 (r.2 1) (92 + 8 * p + 0) v)) := by
  unfold f_R_has
  rw [show ((92 : Int32) + 8 * iN p) + 0 = iN (92 + 8 * p + 0) by simp only [q0, q1, q2, q3, q4, q5, q6, q7, q8, q10, q20, q92, q172, q272, q372, q420, q900, iN_mul, iN_add], rw1 (by omega)]
  rfl
theorem of1 (hp : p < 10) : f_R_of (iN p) 1 r = some (pC (r.2 1) p 1) := by
  unfold f_R_of pC
  rw [show ((92 : Int32) + 8 * iN p) + 1 = iN (92 + 8 * p + 1) by simp only [q0, q1, q2, q3, q4, q5, q6, q7, q8, q10, q20, q92, q172, q272, q372, q420, q900, iN_mul, iN_add], rld1 (by omega)]
  rfl
theorem has1 (hp : p < 10) (v : Int32) : f_R_has (iN p) 1 v r = some (setM r (up1 (r.2 1) (92 + 8 * p + 1) v)) := by
  unfold f_R_has
  rw [show ((92 : Int32) + 8 * iN p) + 1 = iN (92 + 8 * p + 1) by simp only [q0, q1, q2, q3, q4, q5, q6, q7, q8, q10, q20, q92, q172, q272, q372, q420, q900, iN_mul, iN_add], rw1 (by omega)]
  rfl
theorem of2 (hp : p < 10) : f_R_of (iN p) 2 r = some (pC (r.2 1) p 2) := by
  unfold f_R_of pC
  rw [show ((92 : Int32) + 8 * iN p) + 2 = iN (92 + 8 * p + 2) by simp only [q0, q1, q2, q3, q4, q5, q6, q7, q8, q10, q20, q92, q172, q272, q372, q420, q900, iN_mul, iN_add], rld1 (by omega)]
  rfl
theorem has2 (hp : p < 10) (v : Int32) : f_R_has (iN p) 2 v r = some (setM r (up1 (r.2 1) (92 + 8 * p + 2) v)) := by
  unfold f_R_has
  rw [show ((92 : Int32) + 8 * iN p) + 2 = iN (92 + 8 * p + 2) by simp only [q0, q1, q2, q3, q4, q5, q6, q7, q8, q10, q20, q92, q172, q272, q372, q420, q900, iN_mul, iN_add], rw1 (by omega)]
  rfl
theorem of3 (hp : p < 10) : f_R_of (iN p) 3 r = some (pC (r.2 1) p 3) := by
  unfold f_R_of pC
  rw [show ((92 : Int32) + 8 * iN p) + 3 = iN (92 + 8 * p + 3) by simp only [q0, q1, q2, q3, q4, q5, q6, q7, q8, q10, q20, q92, q172, q272, q372, q420, q900, iN_mul, iN_add], rld1 (by omega)]
  rfl
theorem has3 (hp : p < 10) (v : Int32) : f_R_has (iN p) 3 v r = some (setM r (up1 (r.2 1) (92 + 8 * p + 3) v)) := by
  unfold f_R_has
  rw [show ((92 : Int32) + 8 * iN p) + 3 = iN (92 + 8 * p + 3) by simp only [q0, q1, q2, q3, q4, q5, q6, q7, q8, q10, q20, q92, q172, q272, q372, q420, q900, iN_mul, iN_add], rw1 (by omega)]
  rfl
theorem of4 (hp : p < 10) : f_R_of (iN p) 4 r = some (pC (r.2 1) p 4) := by
  unfold f_R_of pC
  rw [show ((92 : Int32) + 8 * iN p) + 4 = iN (92 + 8 * p + 4) by simp only [q0, q1, q2, q3, q4, q5, q6, q7, q8, q10, q20, q92, q172, q272, q372, q420, q900, iN_mul, iN_add], rld1 (by omega)]
  rfl
theorem has4 (hp : p < 10) (v : Int32) : f_R_has (iN p) 4 v r = some (setM r (up1 (r.2 1) (92 + 8 * p + 4) v)) := by
  unfold f_R_has
  rw [show ((92 : Int32) + 8 * iN p) + 4 = iN (92 + 8 * p + 4) by simp only [q0, q1, q2, q3, q4, q5, q6, q7, q8, q10, q20, q92, q172, q272, q372, q420, q900, iN_mul, iN_add], rw1 (by omega)]
  rfl
theorem of5 (hp : p < 10) : f_R_of (iN p) 5 r = some (pC (r.2 1) p 5) := by
  unfold f_R_of pC
  rw [show ((92 : Int32) + 8 * iN p) + 5 = iN (92 + 8 * p + 5) by simp only [q0, q1, q2, q3, q4, q5, q6, q7, q8, q10, q20, q92, q172, q272, q372, q420, q900, iN_mul, iN_add], rld1 (by omega)]
  rfl
theorem has5 (hp : p < 10) (v : Int32) : f_R_has (iN p) 5 v r = some (setM r (up1 (r.2 1) (92 + 8 * p + 5) v)) := by
  unfold f_R_has
  rw [show ((92 : Int32) + 8 * iN p) + 5 = iN (92 + 8 * p + 5) by simp only [q0, q1, q2, q3, q4, q5, q6, q7, q8, q10, q20, q92, q172, q272, q372, q420, q900, iN_mul, iN_add], rw1 (by omega)]
  rfl
theorem of6 (hp : p < 10) : f_R_of (iN p) 6 r = some (pC (r.2 1) p 6) := by
  unfold f_R_of pC
  rw [show ((92 : Int32) + 8 * iN p) + 6 = iN (92 + 8 * p + 6) by simp only [q0, q1, q2, q3, q4, q5, q6, q7, q8, q10, q20, q92, q172, q272, q372, q420, q900, iN_mul, iN_add], rld1 (by omega)]
  rfl
theorem has6 (hp : p < 10) (v : Int32) : f_R_has (iN p) 6 v r = some (setM r (up1 (r.2 1) (92 + 8 * p + 6) v)) := by
  unfold f_R_has
  rw [show ((92 : Int32) + 8 * iN p) + 6 = iN (92 + 8 * p + 6) by simp only [q0, q1, q2, q3, q4, q5, q6, q7, q8, q10, q20, q92, q172, q272, q372, q420, q900, iN_mul, iN_add], rw1 (by omega)]
  rfl
theorem of7 (hp : p < 10) : f_R_of (iN p) 7 r = some (pC (r.2 1) p 7) := by
  unfold f_R_of pC
  rw [show ((92 : Int32) + 8 * iN p) + 7 = iN (92 + 8 * p + 7) by simp only [q0, q1, q2, q3, q4, q5, q6, q7, q8, q10, q20, q92, q172, q272, q372, q420, q900, iN_mul, iN_add], rld1 (by omega)]
  rfl
theorem has7 (hp : p < 10) (v : Int32) : f_R_has (iN p) 7 v r = some (setM r (up1 (r.2 1) (92 + 8 * p + 7) v)) := by
  unfold f_R_has
  rw [show ((92 : Int32) + 8 * iN p) + 7 = iN (92 + 8 * p + 7) by simp only [q0, q1, q2, q3, q4, q5, q6, q7, q8, q10, q20, q92, q172, q272, q372, q420, q900, iN_mul, iN_add], rw1 (by omega)]
  rfl
theorem who_k (hk : k < 24) : f_R_who (iN k) r = some (tA (r.2 1) k) := by
  unfold f_R_who tA
  rw [show (372 : Int32) + 2 * iN k = iN (372 + 2 * k) by simp only [q0, q1, q2, q3, q4, q5, q6, q7, q8, q10, q20, q92, q172, q272, q372, q420, q900, iN_mul, iN_add], rld1 (by omega)]
  rfl
theorem whom_k (hk : k < 24) : f_R_whom (iN k) r = some (tB (r.2 1) k) := by
  unfold f_R_whom tB
  rw [show ((372 : Int32) + 2 * iN k) + 1 = iN (372 + 2 * k + 1) by simp only [q0, q1, q2, q3, q4, q5, q6, q7, q8, q10, q20, q92, q172, q272, q372, q420, q900, iN_mul, iN_add], rld1 (by omega)]
  rfl
theorem ldM (hp : p < 10) (ho : o < 10) : rld r 1 (((172 : Int32) + 10 * iN p) + iN o) = some (mt (r.2 1) p o) := by
  rw [show ((172 : Int32) + 10 * iN p) + iN o = iN (172 + 10 * p + o) by simp only [q0, q1, q2, q3, q4, q5, q6, q7, q8, q10, q20, q92, q172, q272, q372, q420, q900, iN_mul, iN_add], rld1 (by omega)]
  rfl
theorem ldS (hp : p < 10) (ho : o < 10) : rld r 1 (((272 : Int32) + 10 * iN p) + iN o) = some (swC (r.2 1) p o) := by
  rw [show ((272 : Int32) + 10 * iN p) + iN o = iN (272 + 10 * p + o) by simp only [q0, q1, q2, q3, q4, q5, q6, q7, q8, q10, q20, q92, q172, q272, q372, q420, q900, iN_mul, iN_add], rld1 (by omega)]
  rfl
theorem meets_k (hp : p < 10) (ho : o < 10) (a b : Int32) : f_R_meets (iN p) (iN o) a b r = some (setM r (up1 (up1 (r.2 1) (172 + 10 * p + o) a) (272 + 10 * p + o) b)) := by
  unfold f_R_meets
  rw [show ((172 : Int32) + 10 * iN p) + iN o = iN (172 + 10 * p + o) by simp only [q0, q1, q2, q3, q4, q5, q6, q7, q8, q10, q20, q92, q172, q272, q372, q420, q900, iN_mul, iN_add], show ((272 : Int32) + 10 * iN p) + iN o = iN (272 + 10 * p + o) by simp only [q0, q1, q2, q3, q4, q5, q6, q7, q8, q10, q20, q92, q172, q272, q372, q420, q900, iN_mul, iN_add], rw1 (by omega), ob, rw1 (by omega), ob, setM_setM, setM_m]
end Ac
