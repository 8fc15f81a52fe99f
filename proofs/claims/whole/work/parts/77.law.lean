/-! what a law's steps come to -/
/-- what a meeting tells a law: who, whom, both ranks, how often they met, the round; of one land; a cold -/
def fcM (m : Nat → Int32) (p o : Nat) : Nat → Int32
  | 0 => iN p
  | 1 => iN o
  | 2 => pC m p 2
  | 3 => pC m o 2
  | 4 => mt m p o
  | 5 => m 7
  | 6 => if pC m p 0 = pC m o 0 then 1 else 0
  | _ => if pC m p 4 = 0 ∧ pC m o 4 = 0 then 0 else 1
def stV (F : Nat → Int32) (s : Int32) : Int32 :=
  if s = 1 then F 0 else if s = 2 then F 1 else if s = 3 then F 2 else if s = 4 then F 3 else if s = 5 then F 4 else if s = 6 then F 5 else if s = 7 then F 6 else F 7
def jnV (s x y : Int32) : Int32 :=
  if s = 10 then x + y else if s = 11 then (if y ≤ x then 0 else 1) else if s = 12 then (if x ≤ y then 0 else 1) else if s = 13 then x &&& y else x ||| y
/-- one step, over how many lie open, and these -/
def evL (F : Nat → Int32) (s u : Int32) (z : Nat × (Nat → Int32)) : Nat × (Nat → Int32) :=
  if s < 9 ∧ z.1 < 32 then (z.1 + 1, up1 z.2 z.1 (if s = 0 then u else stV F s))
  else if s = 9 ∧ 1 ≤ z.1 then (z.1, up1 z.2 (z.1 - 1) (1 - z.2 (z.1 - 1)))
  else if 9 < s ∧ 2 ≤ z.1 then (z.1 - 1, up1 z.2 (z.1 - 2) (jnV s (z.2 (z.1 - 2)) (z.2 (z.1 - 1))))
  else z
theorem evL_le {F : Nat → Int32} {s u : Int32} {z : Nat × (Nat → Int32)} (h : z.1 ≤ 32) : (evL F s u z).1 ≤ 32 := by
  unfold evL
  by_cases h1 : s < 9 ∧ z.1 < 32
  · rw [if_pos h1]
    show z.1 + 1 ≤ 32
    omega
  · rw [if_neg h1]
    by_cases h2 : s = 9 ∧ 1 ≤ z.1
    · rw [if_pos h2]
      exact h
    · rw [if_neg h2]
      by_cases h3 : 9 < s ∧ 2 ≤ z.1
      · rw [if_pos h3]
        show z.1 - 1 ≤ 32
        omega
      · rw [if_neg h3]
        exact h
/-- steps from i on push v, with h more open at most -/
def Seg (F : Nat → Int32) (s u : Nat → Int32) (i e h : Nat) (v : Int32) : Prop :=
  i ≤ e ∧ ∀ (top : Nat) (o : Nat → Int32), top + h ≤ 32 → ∃ o', lp (fun k z => evL F (s k) (u k) z) (e - i) i (top, o) = (top + 1, o') ∧ (∀ j, j < top → o' j = o j) ∧ o' top = v
/-! the law of a town, as the class holds it -/
def LawShape (M : Mem) (a c : Nat) : Prop :=
  (m_kd M a = (11, 0) ∧ m_rv M a 1 = some (a + 1) ∧ m_rv M a 2 = some (a + 2) ∧ m_rv M a 6 = some (a + 3) ∧ m_rv M a 3 = some (a + 4) ∧ m_rv M a 4 = some (a + 5)) ∧
  (m_kd M (a + 1) = (1, 12) ∧ m_kd M (a + 2) = (1, 12) ∧ m_kd M (a + 3) = (1, 32) ∧ m_kd M (a + 4) = (1, c) ∧ m_kd M (a + 5) = (1, c)) ∧ c ≤ 400
section Lw
variable {M : Mem} {a c : Nat}
theorem LawShape.k0 (h : LawShape M a c) : (m_kd M a).1 = 11 := by rw [h.1.1]
theorem LawShape.i0 (h : LawShape M a c) (j : Nat) : gI M 1 a j = some (m_iv M a j) := gI_k (ci := 1) h.k0
theorem LawShape.p0 (h : LawShape M a c) (j : Nat) (v : Int32) : pI M 1 a j v = some (m_setI M a j v) := pI_k (ci := 1) h.k0
theorem LawShape.c0 (h : LawShape M a c) : ck M 1 a = some () := ck_k (ci := 1) h.k0
theorem LawShape.g1 (h : LawShape M a c) : gR M 1 a 1 = some (a + 1) := (gR_k (ci := 1) h.k0).trans h.1.2.1
theorem LawShape.g2 (h : LawShape M a c) : gR M 1 a 2 = some (a + 2) := (gR_k (ci := 1) h.k0).trans h.1.2.2.1
theorem LawShape.g6 (h : LawShape M a c) : gR M 1 a 6 = some (a + 3) := (gR_k (ci := 1) h.k0).trans h.1.2.2.2.1
theorem LawShape.g3 (h : LawShape M a c) : gR M 1 a 3 = some (a + 4) := (gR_k (ci := 1) h.k0).trans h.1.2.2.2.2.1
theorem LawShape.g4 (h : LawShape M a c) : gR M 1 a 4 = some (a + 5) := (gR_k (ci := 1) h.k0).trans h.1.2.2.2.2.2
theorem LawShape.a1 (h : LawShape M a c) {k : Nat} (hk : k < 12) : ald M (a + 1) (iN k) = some (m_iv M (a + 1) k) := ald_iN h.2.1.1 hk (by decide)
theorem LawShape.a2 (h : LawShape M a c) {k : Nat} (hk : k < 12) : ald M (a + 2) (iN k) = some (m_iv M (a + 2) k) := ald_iN h.2.1.2.1 hk (by decide)
theorem LawShape.a3 (h : LawShape M a c) {k : Nat} (hk : k < 32) : ald M (a + 3) (iN k) = some (m_iv M (a + 3) k) := ald_iN h.2.1.2.2.1 hk (by decide)
theorem LawShape.a4 (h : LawShape M a c) {k : Nat} (hk : k < c) : ald M (a + 4) (iN k) = some (m_iv M (a + 4) k) := ald_iN h.2.1.2.2.2.1 hk (Nat.le_trans h.2.2 (by decide))
theorem LawShape.a5 (h : LawShape M a c) {k : Nat} (hk : k < c) : ald M (a + 5) (iN k) = some (m_iv M (a + 5) k) := ald_iN h.2.1.2.2.2.2 hk (Nat.le_trans h.2.2 (by decide))
theorem LawShape.s1 (h : LawShape M a c) {k : Nat} (hk : k < 12) (v : Int32) : ast M (a + 1) (iN k) v = some (m_setI M (a + 1) k v) := ast_iN h.2.1.1 hk (by decide)
theorem LawShape.s2 (h : LawShape M a c) {k : Nat} (hk : k < 12) (v : Int32) : ast M (a + 2) (iN k) v = some (m_setI M (a + 2) k v) := ast_iN h.2.1.2.1 hk (by decide)
theorem LawShape.s3 (h : LawShape M a c) {k : Nat} (hk : k < 32) (v : Int32) : ast M (a + 3) (iN k) v = some (m_setI M (a + 3) k v) := ast_iN h.2.1.2.2.1 hk (by decide)
theorem LawShape.s4 (h : LawShape M a c) {k : Nat} (hk : k < c) (v : Int32) : ast M (a + 4) (iN k) v = some (m_setI M (a + 4) k v) := ast_iN h.2.1.2.2.2.1 hk (Nat.le_trans h.2.2 (by decide))
theorem LawShape.s5 (h : LawShape M a c) {k : Nat} (hk : k < c) (v : Int32) : ast M (a + 5) (iN k) v = some (m_setI M (a + 5) k v) := ast_iN h.2.1.2.2.2.2 hk (Nat.le_trans h.2.2 (by decide))
theorem LawShape.l4 (h : LawShape M a c) : aln M (a + 4) = some (iN c) := by
  unfold aln
  rw [h.2.1.2.2.2.1]
  exact if_pos rfl
theorem LawShape.l5 (h : LawShape M a c) : aln M (a + 5) = some (iN c) := by
  unfold aln
  rw [h.2.1.2.2.2.2]
  exact if_pos rfl
end Lw
/-- the memory with the law's open row put anew -/
def mO (M : Mem) (a : Nat) (f : Nat → Int32) : Mem := (m_sz M, m_kd M, fun b => if b = a + 3 then f else m_iv M b, m_rv M, m_lv M)
theorem mO_id (M : Mem) (a : Nat) : mO M a (m_iv M (a + 3)) = M := by
  have h : (fun b => if b = a + 3 then m_iv M (a + 3) else m_iv M b) = m_iv M := by
    funext b
    by_cases hb : b = a + 3
    · rw [if_pos hb, hb]
    · rw [if_neg hb]
  show (m_sz M, m_kd M, (fun b => if b = a + 3 then m_iv M (a + 3) else m_iv M b), m_rv M, m_lv M) = M
  rw [h]
  rfl
theorem mO_iv (M : Mem) (a : Nat) (f : Nat → Int32) : m_iv (mO M a f) (a + 3) = f := if_pos rfl
theorem mO_ne {M : Mem} {a : Nat} {f : Nat → Int32} {b : Nat} (h : b ≠ a + 3) : m_iv (mO M a f) b = m_iv M b := if_neg h
theorem mO_set (M : Mem) (a : Nat) (f : Nat → Int32) (k : Nat) (v : Int32) : m_setI (mO M a f) (a + 3) k v = mO M a (up1 f k v) := by
  have h : up2 (fun b => if b = a + 3 then f else m_iv M b) (a + 3) k v = (fun b => if b = a + 3 then up1 f k v else m_iv M b) := by
    funext b j
    unfold up2
    by_cases hb : b = a + 3
    · subst hb
      by_cases hj : j = k
      · subst hj
        rw [if_pos ⟨rfl, rfl⟩, if_pos rfl, up1_same]
      · rw [if_neg (fun q => hj q.2), if_pos rfl, up1_ne hj]
        exact congrFun (if_pos rfl) j
    · rw [if_neg (fun q => hb q.1), if_neg hb]
      exact congrFun (if_neg hb) j
  show (m_sz M, m_kd M, up2 (fun b => if b = a + 3 then f else m_iv M b) (a + 3) k v, m_rv M, m_lv M) = _
  rw [h]
  rfl
theorem mO_mO (M : Mem) (a : Nat) (f g : Nat → Int32) : mO (mO M a f) a g = mO M a g := by
  have h : (fun b => if b = a + 3 then g else (if b = a + 3 then f else m_iv M b)) = (fun b => if b = a + 3 then g else m_iv M b) := by
    funext b
    by_cases hb : b = a + 3
    · rw [if_pos hb, if_pos hb]
    · rw [if_neg hb, if_neg hb, if_neg hb]
  show (m_sz M, m_kd M, (fun b => if b = a + 3 then g else (if b = a + 3 then f else m_iv M b)), m_rv M, m_lv M) = _
  rw [h]
  rfl
theorem LawShape.opn {M : Mem} {a c : Nat} (h : LawShape M a c) (b : Nat) (f : Nat → Int32) : LawShape (mO M b f) a c := h
theorem Shape.opn {M : Mem} {t : Nat} (h : Shape M t) (b : Nat) (f : Nat → Int32) : Shape (mO M b f) t := h
section Lv
variable {M : Mem} {t a c N p o : Nat} {m : Nat → Int32}
theorem f_Law_valueOf_eq (S : Shape M t) (I : Inv m) (R : TRel M t m) (hp : p < cn m 5) (ho : o < cn m 5) (s : Int32) : f_Law_valueOf s t (iN p) (iN o) M = some (stV (fcM m p o) s) := by
  have h5 := I.b5
  have hp2 : p < 10 := by omega
  have ho2 : o < 10 := by omega
  unfold f_Law_valueOf
  simp only [S.g_people, S.g_person hp2, S.g_person ho2, S.iP hp2, S.iP ho2, S.g_met hp2, S.aM hp2 ho2, S.i0, R.q0 I hp, R.q0 I ho, R.q2 I hp, R.q2 I ho, R.q4 I hp, R.q4 I ho, R.qm I hp ho2, R.v7, ob]
  unfold stV
  by_cases h1 : s = 1
  · rw [if_pos h1, if_pos h1]; rfl
  by_cases h2 : s = 2
  · rw [if_neg h1, if_pos h2, if_neg h1, if_pos h2]; rfl
  by_cases h3 : s = 3
  · rw [if_neg h1, if_neg h2, if_pos h3, if_neg h1, if_neg h2, if_pos h3]; rfl
  by_cases h4 : s = 4
  · rw [if_neg h1, if_neg h2, if_neg h3, if_pos h4, if_neg h1, if_neg h2, if_neg h3, if_pos h4]; rfl
  by_cases h5 : s = 5
  · rw [if_neg h1, if_neg h2, if_neg h3, if_neg h4, if_pos h5, if_neg h1, if_neg h2, if_neg h3, if_neg h4, if_pos h5]; rfl
  by_cases h6 : s = 6
  · rw [if_neg h1, if_neg h2, if_neg h3, if_neg h4, if_neg h5, if_pos h6, if_neg h1, if_neg h2, if_neg h3, if_neg h4, if_neg h5, if_pos h6]; rfl
  by_cases h7 : s = 7
  · rw [if_neg h1, if_neg h2, if_neg h3, if_neg h4, if_neg h5, if_neg h6, if_pos h7, if_neg h1, if_neg h2, if_neg h3, if_neg h4, if_neg h5, if_neg h6, if_pos h7]
    show _ = some (if pC m p 0 = pC m o 0 then (1 : Int32) else 0)
    by_cases h8 : pC m p 0 = pC m o 0
    · rw [if_pos h8, if_pos h8]
    · rw [if_neg h8, if_neg h8]
  rw [if_neg h1, if_neg h2, if_neg h3, if_neg h4, if_neg h5, if_neg h6, if_neg h7, if_neg h1, if_neg h2, if_neg h3, if_neg h4, if_neg h5, if_neg h6, if_neg h7]
  show _ = some (if pC m p 4 = 0 ∧ pC m o 4 = 0 then (0 : Int32) else 1)
  by_cases h8 : pC m p 4 = 0
  · by_cases h9 : pC m o 4 = 0
    · rw [if_pos h8, if_pos h9, if_pos ⟨h8, h9⟩]
    · rw [if_pos h8, if_neg h9, if_neg (fun q => h9 q.2)]
  · rw [if_neg h8, if_neg (fun q => h8 q.1)]
theorem f_Law_joined_eq (s x y : Int32) : f_Law_joined s x y = some (jnV s x y) := by
  unfold f_Law_joined jnV
  by_cases h1 : s = 10
  · rw [if_pos h1, if_pos h1]
  by_cases h2 : s = 11
  · rw [if_neg h1, if_pos h2, if_neg h1, if_pos h2]
    by_cases h : y ≤ x
    · rw [if_pos h, if_pos h]
    · rw [if_neg h, if_neg h]
  by_cases h3 : s = 12
  · rw [if_neg h1, if_neg h2, if_pos h3, if_neg h1, if_neg h2, if_pos h3]
    by_cases h : x ≤ y
    · rw [if_pos h, if_pos h]
    · rw [if_neg h, if_neg h]
  by_cases h4 : s = 13
  · rw [if_neg h1, if_neg h2, if_neg h3, if_pos h4, if_neg h1, if_neg h2, if_neg h3, if_pos h4]
  · rw [if_neg h1, if_neg h2, if_neg h3, if_neg h4, if_neg h1, if_neg h2, if_neg h3, if_neg h4]
theorem i9_le {s : Int32} : (9 : Int32) ≤ s ↔ ¬ s < 9 := Int32.not_lt.symm
set_option maxHeartbeats 4000000 in
/-- one turn of the class's loop over a law's steps -/
theorem holds_turn (S : Shape M t) (I : Inv m) (R : TRel M t m) (L : LawShape M a c) (hd : ¬ (t ≤ a + 3 ∧ a + 3 < t + 41)) (hp : p < cn m 5) (ho : o < cn m 5) {e k fuel : Nat} (hk : k < e) (he : e ≤ c) (z : Nat × (Nat → Int32)) (hz : z.1 ≤ 32) (x0 : Int32) :
    f_Law_holds_13 N a x0 (iN e) t (iN p) (iN o) (fuel + 1) (iN z.1) (iN k) (mO M a z.2) = f_Law_holds_13 N a x0 (iN e) t (iN p) (iN o) fuel (iN (evL (fcM m p o) (m_iv M (a + 4) k) (m_iv M (a + 5) k) z).1) (iN (k + 1)) (mO M a (evL (fcM m p o) (m_iv M (a + 4) k) (m_iv M (a + 5) k) z).2) := by
  obtain ⟨top, f⟩ := z
  have hc := L.2.2
  have hz : top ≤ 32 := hz
  have S2 := S.opn a f
  have L2 := L.opn a f
  have R2 : TRel (mO M a f) t m := R.frame fun b h1 h2 => mO_ne (fun q => hd ⟨by omega, by omega⟩)
  have e4 : m_iv (mO M a f) (a + 4) k = m_iv M (a + 4) k := by rw [mO_ne (by omega)]
  have e5 : m_iv (mO M a f) (a + 5) k = m_iv M (a + 5) k := by rw [mO_ne (by omega)]
  have g1 : ¬ iN e ≤ iN k := iN_nle hk (by omega)
  have g2 : ¬ iN c ≤ iN k := iN_nle (by omega) (by omega)
  simp only [f_Law_holds_13, g1, g2, ↓reduceIte, L2.g3, L2.g4, L2.g6, L2.l4, L2.l5, L2.a4 (show k < c by omega), L2.a5 (show k < c by omega), e4, e5, ob, f_Law_valueOf_eq S2 I R2 hp ho, f_Law_holds_93, iN_s]
  generalize m_iv M (a + 4) k = s
  generalize m_iv M (a + 5) k = u
  by_cases h1 : s < 9
  · rw [if_neg (fun q => i9_le.mp q h1)]
    by_cases h2 : top < 32
    · have h3 : ¬ (32 : Int32) ≤ iN top := iN_nle h2 (by decide)
      rw [if_neg h3]
      have e1 : evL (fcM m p o) s u (top, f) = (top + 1, up1 f top (if s = 0 then u else stV (fcM m p o) s)) := if_pos ⟨h1, h2⟩
      rw [e1]
      by_cases h4 : s = 0
      · rw [if_pos h4, if_pos h4, L2.s3 h2, ob, mO_set]
      · rw [if_neg h4, if_neg h4, L2.s3 h2, ob, mO_set]
    · have h3 : (32 : Int32) ≤ iN top := iN_yle (n := 32) (by omega) (by omega)
      have h4 : ¬ s = 9 := fun q => by rw [q] at h1; exact absurd h1 (by decide)
      have h5 : ¬ 9 < s := fun q => Int32.lt_irrefl (Int32.lt_trans h1 q)
      have e1 : evL (fcM m p o) s u (top, f) = (top, f) := by
        unfold evL
        rw [if_neg (fun q => h2 q.2), if_neg (fun q => h4 q.1), if_neg (fun q => h5 q.1)]
      rw [if_pos h3, e1]
      unfold f_Law_holds_100 f_Law_holds_136
      rw [if_neg h4, if_pos (Int32.le_of_lt h1), iN_s]
  · rw [if_pos (i9_le.mpr h1)]
    unfold f_Law_holds_100
    by_cases h4 : s = 9
    · rw [if_pos h4]
      by_cases h5 : 1 ≤ top
      · have h6 : ¬ iN top < 1 := iN_nlt (n := 1) h5 (by omega)
        have e1 : evL (fcM m p o) s u (top, f) = (top, up1 f (top - 1) (1 - f (top - 1))) := by
          unfold evL
          rw [if_neg (fun q => h1 q.1), if_pos ⟨h4, h5⟩]
        have e6 : iN top - 1 = iN (top - 1) := iN_sub (b := 1) h5
        rw [if_neg h6, e1]
        simp only [L2.g6, e6, L2.a3 (show top - 1 < 32 by omega), L2.s3 (show top - 1 < 32 by omega), ob, mO_iv, mO_set, iN_s]
      · have h6 : iN top < 1 := iN_ylt (n := 1) (by omega) (by decide)
        have e1 : evL (fcM m p o) s u (top, f) = (top, f) := by
          unfold evL
          rw [if_neg (fun q => h1 q.1), if_neg (fun q => h5 q.2), if_neg (fun q => h5 (Nat.le_trans (by decide) q.2))]
        rw [if_pos h6, e1]
        unfold f_Law_holds_136
        rw [if_pos (by rw [h4]; exact Int32.le_refl 9), iN_s]
    · have h5 : 9 < s := by
        rcases Int32.lt_or_eq_of_le (i9_le.mpr h1) with h | h
        · exact h
        · exact absurd h.symm h4
      rw [if_neg h4]
      unfold f_Law_holds_136
      rw [if_neg (fun q => Int32.lt_irrefl (Int32.lt_of_lt_of_le h5 q))]
      by_cases h6 : 2 ≤ top
      · have h7 : ¬ iN top < 2 := iN_nlt (n := 2) h6 (by omega)
        have e1 : evL (fcM m p o) s u (top, f) = (top - 1, up1 f (top - 2) (jnV s (f (top - 2)) (f (top - 1)))) := by
          unfold evL
          rw [if_neg (fun q => h1 q.1), if_neg (fun q => h4 q.1), if_pos ⟨h5, h6⟩]
        have e6 : iN top + (-1) = iN (top - 1) := by
          rw [← iN_sub (b := 1) (by omega)]
          exact (Int32.sub_eq_add_neg _ _).symm
        have e7 : iN (top - 1) - 1 = iN (top - 2) := iN_sub (a := top - 1) (b := 1) (by omega)
        rw [if_neg h7, e1]
        simp only [L2.g6, e6, e7, L2.a3 (show top - 1 < 32 by omega), L2.a3 (show top - 2 < 32 by omega), L2.s3 (show top - 2 < 32 by omega), ob, mO_iv, mO_set, iN_s, f_Law_joined_eq]
      · have h7 : iN top < 2 := iN_ylt (n := 2) (by omega) (by decide)
        have e1 : evL (fcM m p o) s u (top, f) = (top, f) := by
          unfold evL
          rw [if_neg (fun q => h1 q.1), if_neg (fun q => h4 q.1), if_neg (fun q => h6 q.2)]
        rw [if_pos h7, e1, iN_s]
end Lv
