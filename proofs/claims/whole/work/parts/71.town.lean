/-! where a town of the class lies: 41 cells in a row -/
def Shape (M : Mem) (t : Nat) : Prop :=
  (m_kd M t = (17, 0) ∧ m_rv M t 0 = some (t + 1) ∧ m_rv M t 1 = some (t + 6) ∧ m_rv M t 3 = some (t + 7) ∧ m_rv M t 4 = some (t + 8) ∧ m_rv M t 14 = some (t + 9)) ∧
  (m_kd M (t + 1) = (10, 0) ∧ m_rv M (t + 1) 0 = some (t + 2) ∧ m_rv M (t + 1) 3 = some (t + 3) ∧ m_rv M (t + 1) 4 = some (t + 4) ∧ m_rv M (t + 1) 5 = some (t + 5)) ∧
  (m_kd M (t + 2) = (14, 0) ∧ m_kd M (t + 3) = (1, 24) ∧ m_kd M (t + 4) = (1, 24) ∧ m_kd M (t + 5) = (1, 24)) ∧
  (m_kd M (t + 6) = (2, 10) ∧ ∀ i, i < 10 → m_rv M (t + 6) i = some (t + 11 + 3 * i)) ∧
  (m_kd M (t + 7) = (1, 24) ∧ m_kd M (t + 8) = (1, 24)) ∧
  (m_kd M (t + 9) = (13, 0) ∧ m_rv M (t + 9) 2 = some (t + 10) ∧ m_kd M (t + 10) = (1, 480)) ∧
  ∀ i, i < 10 → m_kd M (t + 11 + 3 * i) = (15, 0) ∧ m_rv M (t + 11 + 3 * i) 8 = some (t + 12 + 3 * i) ∧ m_rv M (t + 11 + 3 * i) 9 = some (t + 13 + 3 * i) ∧ m_kd M (t + 12 + 3 * i) = (1, 10) ∧ m_kd M (t + 13 + 3 * i) = (1, 10)
/-- the same cells' kinds and references -/
theorem Shape.of {M N : Mem} {t : Nat} (h : Shape M t) (hk : ∀ b, t ≤ b → b < t + 41 → m_kd N b = m_kd M b) (hr : ∀ b j, t ≤ b → b < t + 41 → ¬ (b = t ∧ j = 6) → m_rv N b j = m_rv M b j) : Shape N t := by
  obtain ⟨⟨a1, a2, a3, a4, a5, a6⟩, ⟨b1, b2, b3, b4, b5⟩, ⟨c1, c2, c3, c4⟩, ⟨d1, d2⟩, ⟨e1, e2⟩, ⟨f1, f2, f3⟩, g⟩ := h
  refine ⟨⟨?_, ?_, ?_, ?_, ?_, ?_⟩, ⟨?_, ?_, ?_, ?_, ?_⟩, ⟨?_, ?_, ?_, ?_⟩, ⟨?_, fun i hi => ?_⟩, ⟨?_, ?_⟩, ⟨?_, ?_, ?_⟩, fun i hi => ?_⟩
  · rw [hk t (by omega) (by omega)]; exact a1
  · rw [hr t 0 (by omega) (by omega) (by omega)]; exact a2
  · rw [hr t 1 (by omega) (by omega) (by omega)]; exact a3
  · rw [hr t 3 (by omega) (by omega) (by omega)]; exact a4
  · rw [hr t 4 (by omega) (by omega) (by omega)]; exact a5
  · rw [hr t 14 (by omega) (by omega) (by omega)]; exact a6
  · rw [hk (t + 1) (by omega) (by omega)]; exact b1
  · rw [hr (t + 1) 0 (by omega) (by omega) (by omega)]; exact b2
  · rw [hr (t + 1) 3 (by omega) (by omega) (by omega)]; exact b3
  · rw [hr (t + 1) 4 (by omega) (by omega) (by omega)]; exact b4
  · rw [hr (t + 1) 5 (by omega) (by omega) (by omega)]; exact b5
  · rw [hk (t + 2) (by omega) (by omega)]; exact c1
  · rw [hk (t + 3) (by omega) (by omega)]; exact c2
  · rw [hk (t + 4) (by omega) (by omega)]; exact c3
  · rw [hk (t + 5) (by omega) (by omega)]; exact c4
  · rw [hk (t + 6) (by omega) (by omega)]; exact d1
  · rw [hr (t + 6) i (by omega) (by omega) (by omega)]; exact d2 i hi
  · rw [hk (t + 7) (by omega) (by omega)]; exact e1
  · rw [hk (t + 8) (by omega) (by omega)]; exact e2
  · rw [hk (t + 9) (by omega) (by omega)]; exact f1
  · rw [hr (t + 9) 2 (by omega) (by omega) (by omega)]; exact f2
  · rw [hk (t + 10) (by omega) (by omega)]; exact f3
  · obtain ⟨g1, g2, g3, g4, g5⟩ := g i hi
    rw [hk (t + 11 + 3 * i) (by omega) (by omega), hr (t + 11 + 3 * i) 8 (by omega) (by omega) (by omega), hr (t + 11 + 3 * i) 9 (by omega) (by omega) (by omega), hk (t + 12 + 3 * i) (by omega) (by omega), hk (t + 13 + 3 * i) (by omega) (by omega)]
    exact ⟨g1, g2, g3, g4, g5⟩
theorem Shape.setI {M : Mem} {t a j : Nat} {v : Int32} (h : Shape M t) : Shape (m_setI M a j v) t := h
theorem Shape.cpy {M : Mem} {t a sp b dp n : Nat} (h : Shape M t) : Shape (m_cpy M a sp b dp n) t := h
theorem Shape.law {M : Mem} {t u : Nat} {v : Option Nat} (hu : t ≤ u → u < t + 41 → u = t) (h : Shape M t) : Shape (m_setR M u 6 v) t :=
  h.of (fun _ _ _ => rfl) (fun b j h1 h2 h3 => by
    rw [rv_setR]
    refine if_neg fun q => ?_
    obtain ⟨rfl, rfl⟩ := q
    exact h3 ⟨hu h1 h2, rfl⟩)
theorem Shape.new {M : Mem} {t : Nat} {k : Nat × Nat} (h : Shape M t) (hs : t + 41 ≤ m_sz M) : Shape (m_new M k) t :=
  h.of (fun b h1 h2 => if_neg (by omega)) (fun b j h1 h2 _ => by
    show (if b = m_sz M then fun _ => none else m_rv M b) j = m_rv M b j
    rw [if_neg (by omega)])
section Sh
variable {M : Mem} {t : Nat}
theorem Shape.k0 (h : Shape M t) : (m_kd M t).1 = 17 := by rw [h.1.1]
theorem Shape.k1 (h : Shape M t) : (m_kd M (t + 1)).1 = 10 := by rw [h.2.1.1]
theorem Shape.k2 (h : Shape M t) : (m_kd M (t + 2)).1 = 14 := by rw [h.2.2.1.1]
theorem Shape.k3 (h : Shape M t) : m_kd M (t + 3) = (1, 24) := h.2.2.1.2.1
theorem Shape.k4 (h : Shape M t) : m_kd M (t + 4) = (1, 24) := h.2.2.1.2.2.1
theorem Shape.k5 (h : Shape M t) : m_kd M (t + 5) = (1, 24) := h.2.2.1.2.2.2
theorem Shape.k7 (h : Shape M t) : m_kd M (t + 7) = (1, 24) := h.2.2.2.2.1.1
theorem Shape.k8 (h : Shape M t) : m_kd M (t + 8) = (1, 24) := h.2.2.2.2.1.2
theorem Shape.k9 (h : Shape M t) : (m_kd M (t + 9)).1 = 13 := by rw [h.2.2.2.2.2.1.1]
theorem Shape.k10 (h : Shape M t) : m_kd M (t + 10) = (1, 480) := h.2.2.2.2.2.1.2.2
theorem Shape.kP (h : Shape M t) {i : Nat} (hi : i < 10) : (m_kd M (t + 11 + 3 * i)).1 = 15 := by rw [(h.2.2.2.2.2.2 i hi).1]
theorem Shape.kM (h : Shape M t) {i : Nat} (hi : i < 10) : m_kd M (t + 12 + 3 * i) = (1, 10) := (h.2.2.2.2.2.2 i hi).2.2.2.1
theorem Shape.kS (h : Shape M t) {i : Nat} (hi : i < 10) : m_kd M (t + 13 + 3 * i) = (1, 10) := (h.2.2.2.2.2.2 i hi).2.2.2.2
theorem Shape.g_lands (h : Shape M t) : gR M 7 t 0 = some (t + 1) := (gR_k h.k0).trans h.1.2.1
theorem Shape.g_people (h : Shape M t) : gR M 7 t 1 = some (t + 6) := (gR_k h.k0).trans h.1.2.2.1
theorem Shape.g_who (h : Shape M t) : gR M 7 t 3 = some (t + 7) := (gR_k h.k0).trans h.1.2.2.2.1
theorem Shape.g_whom (h : Shape M t) : gR M 7 t 4 = some (t + 8) := (gR_k h.k0).trans h.1.2.2.2.2.1
theorem Shape.g_log (h : Shape M t) : gR M 7 t 14 = some (t + 9) := (gR_k h.k0).trans h.1.2.2.2.2.2
theorem Shape.g_manners (h : Shape M t) : gR M 0 (t + 1) 0 = some (t + 2) := (gR_k h.k1).trans h.2.1.2.1
theorem Shape.g_hland (h : Shape M t) : gR M 0 (t + 1) 3 = some (t + 3) := (gR_k h.k1).trans h.2.1.2.2.1
theorem Shape.g_hgreet (h : Shape M t) : gR M 0 (t + 1) 4 = some (t + 4) := (gR_k h.k1).trans h.2.1.2.2.2.1
theorem Shape.g_hweight (h : Shape M t) : gR M 0 (t + 1) 5 = some (t + 5) := (gR_k h.k1).trans h.2.1.2.2.2.2
theorem Shape.g_cells (h : Shape M t) : gR M 3 (t + 9) 2 = some (t + 10) := (gR_k h.k9).trans h.2.2.2.2.2.1.2.1
theorem Shape.g_person (h : Shape M t) {i : Nat} (hi : i < 10) : ard M 2 (t + 6) (iN i) = some (t + 11 + 3 * i) := (ard_iN h.2.2.2.1.1 hi (by decide)).trans (h.2.2.2.1.2 i hi)
theorem Shape.g_met (h : Shape M t) {i : Nat} (hi : i < 10) : gR M 5 (t + 11 + 3 * i) 8 = some (t + 12 + 3 * i) := (gR_k (h.kP hi)).trans (h.2.2.2.2.2.2 i hi).2.1
theorem Shape.g_saw (h : Shape M t) {i : Nat} (hi : i < 10) : gR M 5 (t + 11 + 3 * i) 9 = some (t + 13 + 3 * i) := (gR_k (h.kP hi)).trans (h.2.2.2.2.2.2 i hi).2.2.1
end Sh
/-! the same, row by row, as rewriting wants them -/
section Sh2
variable {M : Mem} {t : Nat}
theorem Shape.i0 (h : Shape M t) (j : Nat) : gI M 7 t j = some (m_iv M t j) := gI_k (ci := 7) h.k0
theorem Shape.i1 (h : Shape M t) (j : Nat) : gI M 0 (t + 1) j = some (m_iv M (t + 1) j) := gI_k (ci := 0) h.k1
theorem Shape.i2 (h : Shape M t) (j : Nat) : gI M 4 (t + 2) j = some (m_iv M (t + 2) j) := gI_k (ci := 4) h.k2
theorem Shape.i9 (h : Shape M t) (j : Nat) : gI M 3 (t + 9) j = some (m_iv M (t + 9) j) := gI_k (ci := 3) h.k9
theorem Shape.iP (h : Shape M t) {i : Nat} (hi : i < 10) (j : Nat) : gI M 5 (t + 11 + 3 * i) j = some (m_iv M (t + 11 + 3 * i) j) := gI_k (ci := 5) (h.kP hi)
theorem Shape.n0 (h : Shape M t) (j : Nat) : gN M 7 t j = some (m_rv M t j) := gN_k (ci := 7) h.k0
theorem Shape.p0 (h : Shape M t) (j : Nat) (v : Int32) : pI M 7 t j v = some (m_setI M t j v) := pI_k (ci := 7) h.k0
theorem Shape.p1 (h : Shape M t) (j : Nat) (v : Int32) : pI M 0 (t + 1) j v = some (m_setI M (t + 1) j v) := pI_k (ci := 0) h.k1
theorem Shape.p2 (h : Shape M t) (j : Nat) (v : Int32) : pI M 4 (t + 2) j v = some (m_setI M (t + 2) j v) := pI_k (ci := 4) h.k2
theorem Shape.p9 (h : Shape M t) (j : Nat) (v : Int32) : pI M 3 (t + 9) j v = some (m_setI M (t + 9) j v) := pI_k (ci := 3) h.k9
theorem Shape.pP (h : Shape M t) {i : Nat} (hi : i < 10) (j : Nat) (v : Int32) : pI M 5 (t + 11 + 3 * i) j v = some (m_setI M (t + 11 + 3 * i) j v) := pI_k (ci := 5) (h.kP hi)
theorem Shape.zP (h : Shape M t) {i : Nat} (hi : i < 10) (j : Nat) {v : Int32} (hv : v = 0 ∨ v = 1) : pZ M 5 (t + 11 + 3 * i) j v = some (m_setI M (t + 11 + 3 * i) j v) := if_pos ⟨h.kP hi, hv⟩
theorem Shape.pn (h : Shape M t) (j : Nat) (v : Option Nat) : pN M 7 t j v = some (m_setR M t j v) := pN_k (ci := 7) h.k0
theorem Shape.pr (h : Shape M t) (j : Nat) (v : Nat) : pR M 7 t j v = some (m_setR M t j (some v)) := pR_k (ci := 7) h.k0
theorem Shape.c0 (h : Shape M t) : ck M 7 t = some () := ck_k (ci := 7) h.k0
theorem Shape.c1 (h : Shape M t) : ck M 0 (t + 1) = some () := ck_k (ci := 0) h.k1
theorem Shape.c2 (h : Shape M t) : ck M 4 (t + 2) = some () := ck_k (ci := 4) h.k2
theorem Shape.c9 (h : Shape M t) : ck M 3 (t + 9) = some () := ck_k (ci := 3) h.k9
theorem Shape.cP (h : Shape M t) {i : Nat} (hi : i < 10) : ck M 5 (t + 11 + 3 * i) = some () := ck_k (ci := 5) (h.kP hi)
theorem Shape.a3 (h : Shape M t) {k : Nat} (hk : k < 24) : ald M (t + 3) (iN k) = some (m_iv M (t + 3) k) := ald_iN h.k3 hk (by decide)
theorem Shape.a4 (h : Shape M t) {k : Nat} (hk : k < 24) : ald M (t + 4) (iN k) = some (m_iv M (t + 4) k) := ald_iN h.k4 hk (by decide)
theorem Shape.a5 (h : Shape M t) {k : Nat} (hk : k < 24) : ald M (t + 5) (iN k) = some (m_iv M (t + 5) k) := ald_iN h.k5 hk (by decide)
theorem Shape.a7 (h : Shape M t) {k : Nat} (hk : k < 24) : ald M (t + 7) (iN k) = some (m_iv M (t + 7) k) := ald_iN h.k7 hk (by decide)
theorem Shape.a8 (h : Shape M t) {k : Nat} (hk : k < 24) : ald M (t + 8) (iN k) = some (m_iv M (t + 8) k) := ald_iN h.k8 hk (by decide)
theorem Shape.a10 (h : Shape M t) {k : Nat} (hk : k < 480) : ald M (t + 10) (iN k) = some (m_iv M (t + 10) k) := ald_iN h.k10 hk (by decide)
theorem Shape.aM (h : Shape M t) {i k : Nat} (hi : i < 10) (hk : k < 10) : ald M (t + 12 + 3 * i) (iN k) = some (m_iv M (t + 12 + 3 * i) k) := ald_iN (h.kM hi) hk (by decide)
theorem Shape.aS (h : Shape M t) {i k : Nat} (hi : i < 10) (hk : k < 10) : ald M (t + 13 + 3 * i) (iN k) = some (m_iv M (t + 13 + 3 * i) k) := ald_iN (h.kS hi) hk (by decide)
theorem Shape.s3 (h : Shape M t) {k : Nat} (hk : k < 24) (v : Int32) : ast M (t + 3) (iN k) v = some (m_setI M (t + 3) k v) := ast_iN h.k3 hk (by decide)
theorem Shape.s4 (h : Shape M t) {k : Nat} (hk : k < 24) (v : Int32) : ast M (t + 4) (iN k) v = some (m_setI M (t + 4) k v) := ast_iN h.k4 hk (by decide)
theorem Shape.s5 (h : Shape M t) {k : Nat} (hk : k < 24) (v : Int32) : ast M (t + 5) (iN k) v = some (m_setI M (t + 5) k v) := ast_iN h.k5 hk (by decide)
theorem Shape.s7 (h : Shape M t) {k : Nat} (hk : k < 24) (v : Int32) : ast M (t + 7) (iN k) v = some (m_setI M (t + 7) k v) := ast_iN h.k7 hk (by decide)
theorem Shape.s8 (h : Shape M t) {k : Nat} (hk : k < 24) (v : Int32) : ast M (t + 8) (iN k) v = some (m_setI M (t + 8) k v) := ast_iN h.k8 hk (by decide)
theorem Shape.s10 (h : Shape M t) {k : Nat} (hk : k < 480) (v : Int32) : ast M (t + 10) (iN k) v = some (m_setI M (t + 10) k v) := ast_iN h.k10 hk (by decide)
theorem Shape.sM (h : Shape M t) {i k : Nat} (hi : i < 10) (hk : k < 10) (v : Int32) : ast M (t + 12 + 3 * i) (iN k) v = some (m_setI M (t + 12 + 3 * i) k v) := ast_iN (h.kM hi) hk (by decide)
theorem Shape.sS (h : Shape M t) {i k : Nat} (hi : i < 10) (hk : k < 10) (v : Int32) : ast M (t + 13 + 3 * i) (iN k) v = some (m_setI M (t + 13 + 3 * i) k v) := ast_iN (h.kS hi) hk (by decide)
end Sh2
