/-! what holds of the model's row all along -/
/-- a number from 0 to b -/
def nb (v : Int32) (b : Nat) : Prop := ∃ n, n ≤ b ∧ v = iN n
theorem nb_c {v : Int32} {b : Nat} (h : nb v b) (hb : b < 2147483648) : v = iN v.toNatClampNeg ∧ v.toNatClampNeg ≤ b := by
  obtain ⟨n, h1, rfl⟩ := h
  rw [iN_cl (by omega)]
  exact ⟨rfl, h1⟩
/-- a number below b -/
def nx (v : Int32) (b : Nat) : Prop := ∃ n, n < b ∧ v = iN n
def IL (m : Nat → Int32) : Prop := (nb (m 3) 6 ∧ nb (m 4) 24) ∧ (nb (m 13) 99 ∧ nb (m 14) 99 ∧ nb (m 15) 99) ∧ ∀ k, k < cn m 4 → nx (m (20 + 3 * k)) (cn m 3) ∧ nx (m (21 + 3 * k)) 32 ∧ nb (m (22 + 3 * k)) 9 ∧ m (22 + 3 * k) ≠ 0
/-- how often all together -/
def hadM (m : Nat → Int32) (p : Nat) : Int32 := lp (fun k z => z + mt m p k) 10 0 0
def IP1 (m : Nat → Int32) (p : Nat) : Prop := (nx (pC m p 0) (cn m 3) ∧ nx (pC m p 1) 32 ∧ nb (pC m p 2) 9 ∧ nb (pC m p 3) 100) ∧ (pC m p 4 = 0 ∨ pC m p 4 = 1) ∧ pC m p 5 = hadM m p ∧ (∀ o, o < 10 → swC m p o = -1 ∨ nx (swC m p o) 32) ∧ ∀ o, cn m 5 ≤ o → o < 10 → mt m p o = 0 ∧ swC m p o = -1
def IP (m : Nat → Int32) : Prop := nb (m 5) 10 ∧ ∀ p, p < cn m 5 → IP1 m p
/-- the k-th tie is of a and b -/
def tieOf (m : Nat → Int32) (k a b : Nat) : Prop := tA m k = iN a ∧ tB m k = iN b
def IT (m : Nat → Int32) : Prop := nb (m 6) 24 ∧ (∀ k, k < cn m 6 → ∃ a b, a < cn m 5 ∧ b < cn m 5 ∧ a ≠ b ∧ tieOf m k a b) ∧ ∀ j k, j < k → k < cn m 6 → ¬ (tA m j = tA m k ∧ tB m j = tB m k) ∧ ¬ (tA m j = tB m k ∧ tB m j = tA m k)
def IG (m : Nat → Int32) : Prop := nb (m 12) 60 ∧ ∀ k, k < cn m 12 → (∃ a b, a < b ∧ b < 10 ∧ lgc m k 1 = iN a ∧ lgc m k 2 = iN b) ∧ nx (lgc m k 3) 32 ∧ nx (lgc m k 4) 32
def Inv (m : Nat → Int32) : Prop := IL m ∧ IP m ∧ IT m ∧ IG m ∧ nb (m 0) 12
section In
variable {m : Nat → Int32}
theorem Inv.n0 (I : Inv m) : m 0 = iN (cn m 0) := (nb_c I.2.2.2.2 (by decide)).1
theorem Inv.b0 (I : Inv m) : cn m 0 ≤ 12 := (nb_c I.2.2.2.2 (by decide)).2
theorem Inv.n3 (I : Inv m) : m 3 = iN (cn m 3) := (nb_c I.1.1.1 (by decide)).1
theorem Inv.b3 (I : Inv m) : cn m 3 ≤ 6 := (nb_c I.1.1.1 (by decide)).2
theorem Inv.n4 (I : Inv m) : m 4 = iN (cn m 4) := (nb_c I.1.1.2 (by decide)).1
theorem Inv.b4 (I : Inv m) : cn m 4 ≤ 24 := (nb_c I.1.1.2 (by decide)).2
theorem Inv.n5 (I : Inv m) : m 5 = iN (cn m 5) := (nb_c I.2.1.1 (by decide)).1
theorem Inv.b5 (I : Inv m) : cn m 5 ≤ 10 := (nb_c I.2.1.1 (by decide)).2
theorem Inv.n6 (I : Inv m) : m 6 = iN (cn m 6) := (nb_c I.2.2.1.1 (by decide)).1
theorem Inv.b6 (I : Inv m) : cn m 6 ≤ 24 := (nb_c I.2.2.1.1 (by decide)).2
theorem Inv.n12 (I : Inv m) : m 12 = iN (cn m 12) := (nb_c I.2.2.2.1.1 (by decide)).1
theorem Inv.b12 (I : Inv m) : cn m 12 ≤ 60 := (nb_c I.2.2.2.1.1 (by decide)).2
theorem Inv.pr (I : Inv m) : nb (m 13) 99 ∧ nb (m 14) 99 ∧ nb (m 15) 99 := I.1.2.1
theorem Inv.hb (I : Inv m) {k : Nat} (hk : k < cn m 4) : nx (m (20 + 3 * k)) (cn m 3) ∧ nx (m (21 + 3 * k)) 32 ∧ nb (m (22 + 3 * k)) 9 ∧ m (22 + 3 * k) ≠ 0 := I.1.2.2 k hk
theorem Inv.p (I : Inv m) {p : Nat} (hp : p < cn m 5) : IP1 m p := I.2.1.2 p hp
theorem Inv.t (I : Inv m) {k : Nat} (hk : k < cn m 6) : ∃ a b, a < cn m 5 ∧ b < cn m 5 ∧ a ≠ b ∧ tieOf m k a b := I.2.2.1.2.1 k hk
end In
/-! a town of the class and the model's row -/
def LRel (M : Mem) (t : Nat) (m : Nat → Int32) : Prop := m_iv M (t + 1) 1 = m 3 ∧ m_iv M (t + 1) 2 = m 4 ∧ (m_iv M (t + 2) 0 = m 13 ∧ m_iv M (t + 2) 1 = m 14 ∧ m_iv M (t + 2) 2 = m 15) ∧ ∀ k, k < cn m 4 → m_iv M (t + 3) k = m (20 + 3 * k) ∧ m_iv M (t + 4) k = m (21 + 3 * k) ∧ m_iv M (t + 5) k = m (22 + 3 * k)
def CRel (M : Mem) (t : Nat) (m : Nat → Int32) : Prop := m_iv M t 2 = m 5 ∧ m_iv M t 5 = m 6 ∧ m_iv M t 7 = m 0 ∧ m_iv M t 8 = m 16 ∧ m_iv M t 9 = m 7 ∧ m_iv M t 10 = m 8 ∧ m_iv M t 11 = m 9 ∧ m_iv M t 12 = m 10 ∧ m_iv M t 13 = m 11
/-- a and b are tied -/
def tdB (m : Nat → Int32) (a b : Nat) : Bool := anyB (fun k => decide ((tA m k = iN a ∧ tB m k = iN b) ∨ (tA m k = iN b ∧ tB m k = iN a))) (cn m 6)
/-- with whom one is tied -/
def tdS (m : Nat → Int32) (p : Nat) : Int32 := setB (tdB m p) (cn m 5)
def PRel (M : Mem) (t : Nat) (m : Nat → Int32) (p : Nat) : Prop :=
  (p < cn m 5 → (m_iv M (t + 11 + 3 * p) 0 = pC m p 0 ∧ m_iv M (t + 11 + 3 * p) 1 = pC m p 1 ∧ m_iv M (t + 11 + 3 * p) 2 = pC m p 2 ∧ m_iv M (t + 11 + 3 * p) 3 = pC m p 3) ∧ m_iv M (t + 11 + 3 * p) 4 = pC m p 4 ∧ m_iv M (t + 11 + 3 * p) 5 = tdS m p ∧ (m_iv M (t + 11 + 3 * p) 6 = pC m p 6 ∧ m_iv M (t + 11 + 3 * p) 7 = pC m p 7) ∧ ∀ o, o < 10 → m_iv M (t + 12 + 3 * p) o = mt m p o ∧ m_iv M (t + 13 + 3 * p) o = swC m p o) ∧
  (cn m 5 ≤ p → m_iv M (t + 11 + 3 * p) 4 = 0 ∧ m_iv M (t + 11 + 3 * p) 5 = 0 ∧ m_iv M (t + 11 + 3 * p) 6 = -1 ∧ m_iv M (t + 11 + 3 * p) 7 = -1 ∧ ∀ o, o < 10 → m_iv M (t + 12 + 3 * p) o = 0 ∧ m_iv M (t + 13 + 3 * p) o = -1)
def ERel (M : Mem) (t : Nat) (m : Nat → Int32) : Prop := ∀ k, k < cn m 6 → m_iv M (t + 7) k = tA m k ∧ m_iv M (t + 8) k = tB m k
def GRel (M : Mem) (t : Nat) (m : Nat → Int32) : Prop := m_iv M (t + 9) 0 = m 12 ∧ ∃ w, w < 60 ∧ m_iv M (t + 9) 1 = iN w ∧ ∀ k c, k < cn m 12 → c < 8 → m_iv M (t + 10) ((w + 60 - k) % 60 * 8 + c) = lgc m k c
def TRel (M : Mem) (t : Nat) (m : Nat → Int32) : Prop := LRel M t m ∧ CRel M t m ∧ (∀ p, p < 10 → PRel M t m p) ∧ ERel M t m ∧ GRel M t m
section Tr
variable {M : Mem} {t : Nat} {m : Nat → Int32}
theorem TRel.L (R : TRel M t m) : LRel M t m := R.1
theorem TRel.C (R : TRel M t m) : CRel M t m := R.2.1
theorem TRel.P (R : TRel M t m) {p : Nat} (hp : p < 10) : PRel M t m p := R.2.2.1 p hp
theorem TRel.E (R : TRel M t m) : ERel M t m := R.2.2.2.1
theorem TRel.G (R : TRel M t m) : GRel M t m := R.2.2.2.2
theorem TRel.v5 (R : TRel M t m) : m_iv M t 2 = m 5 := R.2.1.1
theorem TRel.v6 (R : TRel M t m) : m_iv M t 5 = m 6 := R.2.1.2.1
theorem TRel.v0 (R : TRel M t m) : m_iv M t 7 = m 0 := R.2.1.2.2.1
theorem TRel.v16 (R : TRel M t m) : m_iv M t 8 = m 16 := R.2.1.2.2.2.1
theorem TRel.v7 (R : TRel M t m) : m_iv M t 9 = m 7 := R.2.1.2.2.2.2.1
theorem TRel.v8 (R : TRel M t m) : m_iv M t 10 = m 8 := R.2.1.2.2.2.2.2.1
theorem TRel.v9 (R : TRel M t m) : m_iv M t 11 = m 9 := R.2.1.2.2.2.2.2.2.1
theorem TRel.v10 (R : TRel M t m) : m_iv M t 12 = m 10 := R.2.1.2.2.2.2.2.2.2.1
theorem TRel.v11 (R : TRel M t m) : m_iv M t 13 = m 11 := R.2.1.2.2.2.2.2.2.2.2
theorem TRel.v3 (R : TRel M t m) : m_iv M (t + 1) 1 = m 3 := R.1.1
theorem TRel.v4 (R : TRel M t m) : m_iv M (t + 1) 2 = m 4 := R.1.2.1
theorem TRel.hab (R : TRel M t m) {k : Nat} (hk : k < cn m 4) : m_iv M (t + 3) k = m (20 + 3 * k) ∧ m_iv M (t + 4) k = m (21 + 3 * k) ∧ m_iv M (t + 5) k = m (22 + 3 * k) := R.1.2.2.2 k hk
section Tp
variable {p : Nat}
theorem TRel.q (R : TRel M t m) (I : Inv m) (hp : p < cn m 5) : (m_iv M (t + 11 + 3 * p) 0 = pC m p 0 ∧ m_iv M (t + 11 + 3 * p) 1 = pC m p 1 ∧ m_iv M (t + 11 + 3 * p) 2 = pC m p 2 ∧ m_iv M (t + 11 + 3 * p) 3 = pC m p 3) ∧ m_iv M (t + 11 + 3 * p) 4 = pC m p 4 ∧ m_iv M (t + 11 + 3 * p) 5 = tdS m p ∧ (m_iv M (t + 11 + 3 * p) 6 = pC m p 6 ∧ m_iv M (t + 11 + 3 * p) 7 = pC m p 7) ∧ ∀ o, o < 10 → m_iv M (t + 12 + 3 * p) o = mt m p o ∧ m_iv M (t + 13 + 3 * p) o = swC m p o :=
  (R.2.2.1 p (Nat.lt_of_lt_of_le hp I.b5)).1 hp
theorem TRel.q0 (R : TRel M t m) (I : Inv m) (hp : p < cn m 5) : m_iv M (t + 11 + 3 * p) 0 = pC m p 0 := (R.q I hp).1.1
theorem TRel.q1 (R : TRel M t m) (I : Inv m) (hp : p < cn m 5) : m_iv M (t + 11 + 3 * p) 1 = pC m p 1 := (R.q I hp).1.2.1
theorem TRel.q2 (R : TRel M t m) (I : Inv m) (hp : p < cn m 5) : m_iv M (t + 11 + 3 * p) 2 = pC m p 2 := (R.q I hp).1.2.2.1
theorem TRel.q3 (R : TRel M t m) (I : Inv m) (hp : p < cn m 5) : m_iv M (t + 11 + 3 * p) 3 = pC m p 3 := (R.q I hp).1.2.2.2
theorem TRel.q4 (R : TRel M t m) (I : Inv m) (hp : p < cn m 5) : m_iv M (t + 11 + 3 * p) 4 = pC m p 4 := (R.q I hp).2.1
theorem TRel.q5 (R : TRel M t m) (I : Inv m) (hp : p < cn m 5) : m_iv M (t + 11 + 3 * p) 5 = tdS m p := (R.q I hp).2.2.1
theorem TRel.q6 (R : TRel M t m) (I : Inv m) (hp : p < cn m 5) : m_iv M (t + 11 + 3 * p) 6 = pC m p 6 := (R.q I hp).2.2.2.1.1
theorem TRel.q7 (R : TRel M t m) (I : Inv m) (hp : p < cn m 5) : m_iv M (t + 11 + 3 * p) 7 = pC m p 7 := (R.q I hp).2.2.2.1.2
theorem TRel.qm (R : TRel M t m) (I : Inv m) (hp : p < cn m 5) {o : Nat} (ho : o < 10) : m_iv M (t + 12 + 3 * p) o = mt m p o := ((R.q I hp).2.2.2.2 o ho).1
theorem TRel.qs (R : TRel M t m) (I : Inv m) (hp : p < cn m 5) {o : Nat} (ho : o < 10) : m_iv M (t + 13 + 3 * p) o = swC m p o := ((R.q I hp).2.2.2.2 o ho).2
end Tp
/-- the town's own ints alone matter -/
theorem TRel.frame {N : Mem} (R : TRel M t m) (h : ∀ b, t ≤ b → b < t + 41 → m_iv N b = m_iv M b) : TRel N t m := by
  obtain ⟨⟨l1, l2, l3, l4⟩, c, p, e, g1, w, g2, g3, g4⟩ := R
  refine ⟨⟨?_, ?_, ?_, ?_⟩, ?_, ?_, ?_, ?_, w, g2, ?_, ?_⟩
  · rw [h _ (by omega) (by omega)]; exact l1
  · rw [h _ (by omega) (by omega)]; exact l2
  · rw [h _ (by omega) (by omega)]; exact l3
  · rw [h _ (by omega) (by omega), h _ (by omega) (by omega), h _ (by omega) (by omega)]; exact l4
  · unfold CRel
    rw [h _ (by omega) (by omega)]; exact c
  · intro q hq
    have := p q hq
    unfold PRel at this ⊢
    rw [h (t + 11 + 3 * q) (by omega) (by omega), h (t + 12 + 3 * q) (by omega) (by omega), h (t + 13 + 3 * q) (by omega) (by omega)]
    exact this
  · unfold ERel
    rw [h _ (by omega) (by omega), h _ (by omega) (by omega)]; exact e
  · rw [h _ (by omega) (by omega)]; exact g1
  · rw [h _ (by omega) (by omega)]; exact g3
  · rw [h _ (by omega) (by omega)]; exact g4
end Tr
