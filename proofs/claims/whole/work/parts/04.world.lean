/-! the words that every method asks: the good ones of the tables -/
/-- private methods of a class above, by the class of the receiver: that they are what is run follows from the tables (w_xs_ok) -/
def wXS : List Cond := [.selects RX2 yX7_goOn yX7_goOn, .selects RX2 yX7_isNumberNext yX7_isNumberNext, .selects RX9 yX7_goOn yX7_goOn, .selects RX9 yX7_isNumberNext yX7_isNumberNext]
def wTB : List Cond := (wXS ++ lw_tbl).filter goodWord
theorem tb_of {w : Cond} (h : w ∈ lw_tbl) (g : goodWord w = true) : w ∈ wTB := List.mem_filter.mpr ⟨List.mem_append_right _ h, g⟩
theorem tb_xs {w : Cond} (i : Nat) (h : wXS[i]? = some w) (g : goodWord w = true) : w ∈ wTB := List.mem_filter.mpr ⟨List.mem_append_left _ (List.mem_of_getElem? h), g⟩
theorem tb_t {w : Cond} (h : w ∈ tables_1) (g : goodWord w = true) : w ∈ wTB := tb_of (List.mem_append_right _ h) g
theorem tbx1 {w : Cond} (h : w ∈ tables_1_1) : w ∈ tables_1 := List.mem_append_left _ h
theorem tbx2 {w : Cond} (h : w ∈ tables_1_2) : w ∈ tables_1 := List.mem_append_right _ (List.mem_append_left _ h)
theorem tbx3 {w : Cond} (h : w ∈ tables_1_3) : w ∈ tables_1 := List.mem_append_right _ (List.mem_append_right _ (List.mem_append_left _ h))
theorem tbx4 {w : Cond} (h : w ∈ tables_1_4) : w ∈ tables_1 := List.mem_append_right _ (List.mem_append_right _ (List.mem_append_right _ (List.mem_append_left _ h)))
theorem tbx5 {w : Cond} (h : w ∈ tables_1_5) : w ∈ tables_1 := List.mem_append_right _ (List.mem_append_right _ (List.mem_append_right _ (List.mem_append_right _ (List.mem_append_left _ h))))
theorem tbx6 {w : Cond} (h : w ∈ tables_1_6) : w ∈ tables_1 := List.mem_append_right _ (List.mem_append_right _ (List.mem_append_right _ (List.mem_append_right _ (List.mem_append_right _ (List.mem_append_left _ h)))))
theorem tbx7 {w : Cond} (h : w ∈ tables_1_7) : w ∈ tables_1 := List.mem_append_right _ (List.mem_append_right _ (List.mem_append_right _ (List.mem_append_right _ (List.mem_append_right _ (List.mem_append_right _ (List.mem_append_left _ h))))))
theorem tbx8 {w : Cond} (h : w ∈ tables_1_8) : w ∈ tables_1 := List.mem_append_right _ (List.mem_append_right _ (List.mem_append_right _ (List.mem_append_right _ (List.mem_append_right _ (List.mem_append_right _ (List.mem_append_right _ (List.mem_append_left _ h)))))))
theorem tbx9 {w : Cond} (h : w ∈ tables_1_9) : w ∈ tables_1 := List.mem_append_right _ (List.mem_append_right _ (List.mem_append_right _ (List.mem_append_right _ (List.mem_append_right _ (List.mem_append_right _ (List.mem_append_right _ (List.mem_append_right _ h)))))))
theorem tb1 {w : Cond} (i : Nat) (h : tables_1_1[i]? = some w) (g : goodWord w = true) : w ∈ wTB := tb_t (tbx1 (List.mem_of_getElem? h)) g
theorem tb2 {w : Cond} (i : Nat) (h : tables_1_2[i]? = some w) (g : goodWord w = true) : w ∈ wTB := tb_t (tbx2 (List.mem_of_getElem? h)) g
theorem tb3 {w : Cond} (i : Nat) (h : tables_1_3[i]? = some w) (g : goodWord w = true) : w ∈ wTB := tb_t (tbx3 (List.mem_of_getElem? h)) g
theorem tb4 {w : Cond} (i : Nat) (h : tables_1_4[i]? = some w) (g : goodWord w = true) : w ∈ wTB := tb_t (tbx4 (List.mem_of_getElem? h)) g
theorem tb5 {w : Cond} (i : Nat) (h : tables_1_5[i]? = some w) (g : goodWord w = true) : w ∈ wTB := tb_t (tbx5 (List.mem_of_getElem? h)) g
theorem tb6 {w : Cond} (i : Nat) (h : tables_1_6[i]? = some w) (g : goodWord w = true) : w ∈ wTB := tb_t (tbx6 (List.mem_of_getElem? h)) g
theorem tb7 {w : Cond} (i : Nat) (h : tables_1_7[i]? = some w) (g : goodWord w = true) : w ∈ wTB := tb_t (tbx7 (List.mem_of_getElem? h)) g
theorem tb8 {w : Cond} (i : Nat) (h : tables_1_8[i]? = some w) (g : goodWord w = true) : w ∈ wTB := tb_t (tbx8 (List.mem_of_getElem? h)) g
theorem tb9 {w : Cond} (i : Nat) (h : tables_1_9[i]? = some w) (g : goodWord w = true) : w ∈ wTB := tb_t (tbx9 (List.mem_of_getElem? h)) g
theorem tb_p {w : Cond} (i : Nat) (h : (k2_sels lw_privs)[i]? = some w) (g : goodWord w = true) : w ∈ wTB := tb_of (List.mem_append_left _ (List.mem_of_getElem? h)) g
theorem tb_good : ∀ w ∈ wTB, (w.onTables && w.keeps) = true ∨ ∃ ty, w = .arrayClass ty := fun _ h => good_of_word (List.mem_filter.mp h).2
/-- one method's words: its own code, and the common ones -/
def wWs (y : MethodName) (cc : ByteArray) (maxL : Nat) (ret : Option FieldType) : List Cond := .code y cc maxL ret :: wTB
theorem wWs_in {y y' : MethodName} {cc cc' : ByteArray} {n n' : Nat} {r r' : Option FieldType} (h : Cond.code y' cc' n' r' ∈ wTB) : GoodIn (wWs y cc n r) (wWs y' cc' n' r') := by
  intro w hw
  rcases List.mem_cons.mp hw with rfl | hw
  · exact ⟨List.mem_cons_of_mem _ h, tb_good _ h⟩
  · exact ⟨List.mem_cons_of_mem _ hw, tb_good _ hw⟩
/-! the memory of the class's objects: how many cells, their kinds, ints, references, longs -/
abbrev Mem : Type := Nat × (Nat → Nat × Nat) × (Nat → Nat → Int32) × (Nat → Nat → Option Nat) × (Nat → Nat → Int64)
def m_sz (M : Mem) : Nat := M.1
def m_kd (M : Mem) : Nat → Nat × Nat := M.2.1
def m_iv (M : Mem) : Nat → Nat → Int32 := M.2.2.1
def m_rv (M : Mem) : Nat → Nat → Option Nat := M.2.2.2.1
def m_lv (M : Mem) : Nat → Nat → Int64 := M.2.2.2.2
def up2 {α : Type} (f : Nat → Nat → α) (a j : Nat) (v : α) : Nat → Nat → α := fun b k => if b = a ∧ k = j then v else f b k
def m_setI (M : Mem) (a j : Nat) (v : Int32) : Mem := (m_sz M, m_kd M, up2 (m_iv M) a j v, m_rv M, m_lv M)
def m_setR (M : Mem) (a j : Nat) (v : Option Nat) : Mem := (m_sz M, m_kd M, m_iv M, up2 (m_rv M) a j v, m_lv M)
def m_setL (M : Mem) (a j : Nat) (v : Int64) : Mem := (m_sz M, m_kd M, m_iv M, m_rv M, up2 (m_lv M) a j v)
/-- a new cell of a kind, with nothing in it -/
def m_new (M : Mem) (k : Nat × Nat) : Mem := (m_sz M + 1, fun b => if b = m_sz M then k else m_kd M b, fun b => if b = m_sz M then fun _ => 0 else m_iv M b, fun b => if b = m_sz M then fun _ => none else m_rv M b, fun b => if b = m_sz M then fun _ => 0 else m_lv M b)
/-- a range of one row of ints copied into another -/
def m_cpy (M : Mem) (a sp b dp n : Nat) : Mem := (m_sz M, m_kd M, fun x => if x = b then va_cpy (m_iv M a) (m_iv M b) sp dp n else m_iv M x, m_rv M, m_lv M)
/-- a row of ints all filled -/
def m_fill (M : Mem) (a : Nat) (v : Int32) : Mem := (m_sz M, m_kd M, fun x => if x = a then fun k => if k < (m_kd M a).2 then v else m_iv M a k else m_iv M x, m_rv M, m_lv M)
/-- .. kinds: 0 unknown, 1 ints, 2 rows of Person, 3 rows of Town, 4 longs, 10 + c an object of class c; the second number: a row's length -/
def w_nf : Nat → Nat | 0 => 6 | 1 => 7 | 2 => 7 | 3 => 3 | 4 => 3 | 5 => 10 | 6 => 6 | 7 => 15 | 8 => 7 | 9 => 6 | 10 => 11 | _ => 27
def w_rf : Nat → List Nat | 0 => [0, 3, 4, 5] | 1 => [1, 2, 3, 4, 6] | 2 => [1, 6] | 3 => [2] | 4 => [] | 5 => [8, 9] | 6 => [1, 2, 4, 5] | 7 => [0, 1, 3, 4, 6, 14] | 8 => [1, 6] | 9 => [1, 2, 3, 4, 5] | 10 => [0, 3, 4, 6, 8, 9, 10] | _ => [1, 2, 4, 5, 7, 14, 18, 19, 20, 21, 22, 23, 24, 25]
def w_rk (ci j : Nat) : Bool := (w_rf ci).contains j
def w_bk (ci j : Nat) : Bool := (ci == 5 && j == 4) || (ci == 10 && j == 5) || (ci == 11 && (j == 3 || j == 15 || j == 16))
def w_fv (iv : Nat → Int32) (rv : Nat → Option Nat) (ci j : Nat) : Value := if w_rk ci j then va_rf (rv j) else .int (iv j)
def w_fs (iv : Nat → Int32) (rv : Nat → Option Nat) (ci : Nat) : List Value := (List.range (w_nf ci)).map (w_fv iv rv ci)
theorem w_fs_at {iv : Nat → Int32} {rv : Nat → Option Nat} {ci j : Nat} (h : j < w_nf ci) : (w_fs iv rv ci)[j]? = some (w_fv iv rv ci j) := by
  simp [w_fs, h]
theorem w_fs_len {iv : Nat → Int32} {rv : Nat → Option Nat} {ci : Nat} : (w_fs iv rv ci).length = w_nf ci := by simp [w_fs]
theorem w_fs_setI {iv : Nat → Int32} {rv : Nat → Option Nat} {ci j : Nat} (hr : w_rk ci j = false) (v : Int32) : (w_fs iv rv ci).set j (.int v) = w_fs (fun k => if k = j then v else iv k) rv ci := by
  refine List.ext_getElem? fun i => ?_
  rw [List.getElem?_set]
  by_cases hi : i < w_nf ci
  · rw [w_fs_at hi, w_fs_at hi, w_fs_len]
    by_cases hj : j = i
    · subst hj; simp [w_fv, hr, hi]
    · simp [w_fv, hj, Ne.symm hj]
  · have h1 : (w_fs iv rv ci)[i]? = none := by rw [List.getElem?_eq_none_iff, w_fs_len]; omega
    have h2 : (w_fs (fun k => if k = j then v else iv k) rv ci)[i]? = none := by rw [List.getElem?_eq_none_iff, w_fs_len]; omega
    rw [h1, h2, w_fs_len]
    by_cases hj : j = i
    · subst hj; simp [hi]
    · simp [hj]
theorem w_fs_setR {iv : Nat → Int32} {rv : Nat → Option Nat} {ci j : Nat} (hr : w_rk ci j = true) (v : Option Nat) : (w_fs iv rv ci).set j (va_rf v) = w_fs iv (fun k => if k = j then v else rv k) ci := by
  refine List.ext_getElem? fun i => ?_
  rw [List.getElem?_set]
  by_cases hi : i < w_nf ci
  · rw [w_fs_at hi, w_fs_at hi, w_fs_len]
    by_cases hj : j = i
    · subst hj; simp [w_fv, hr, hi]
    · simp [w_fv, hj, Ne.symm hj]
  · have h1 : (w_fs iv rv ci)[i]? = none := by rw [List.getElem?_eq_none_iff, w_fs_len]; omega
    have h2 : (w_fs iv (fun k => if k = j then v else rv k) ci)[i]? = none := by rw [List.getElem?_eq_none_iff, w_fs_len]; omega
    rw [h1, h2, w_fs_len]
    by_cases hj : j = i
    · subst hj; simp [hi]
    · simp [hj]
/-- ghosts: class ids and slots; the rows' classes (int, Person, Town, long); the lowest cell of ours; the model's cell, and whether it stands; the texts' cells, their bytes' cells -/
abbrev wG : Type := va_G × (ClassId × ClassId × ClassId × ClassId) × Nat × (Nat × Bool) × (Nat → Nat) × (Nat → Nat)
def g_D (G : wG) : va_G := G.1
def g_I (G : wG) : ClassId := G.2.1.1
def g_P (G : wG) : ClassId := G.2.1.2.1
def g_T (G : wG) : ClassId := G.2.1.2.2.1
def g_J (G : wG) : ClassId := G.2.1.2.2.2
def g_lo (G : wG) : Nat := G.2.2.1
def g_r (G : wG) : Nat := G.2.2.2.1.1
def g_on (G : wG) : Bool := G.2.2.2.1.2
def g_sk (G : wG) : Nat → Nat := G.2.2.2.2.1
def g_sv (G : wG) : Nat → Nat := G.2.2.2.2.2
def g_A (G : wG) : Nat → Prop := fun q => g_lo G ≤ q
/-- the model's state: its ints by field, its rows by field -/
abbrev Rho : Type := (Nat → Int32) × (Nat → Nat → Int32)
def up1 {α : Type} (f : Nat → α) (j : Nat) (v : α) : Nat → α := fun k => if k = j then v else f k
def r_set (r : Rho) (j : Nat) (v : Int32) : Rho := (up1 r.1 j v, r.2)
def r_st (r : Rho) (j i : Nat) (v : Int32) : Rho := (r.1, up2 r.2 j i v)
def r_len : Nat → Nat | 1 => 1300 | 2 => 1300 | 4 => 900 | 5 => 10800 | 7 => 400 | 14 => 6 | 18 => 10 | 19 => 10 | 20 => 10 | 21 => 32 | 22 => 8 | 23 => 8 | 24 => 1024 | 25 => 100 | _ => 0
/-- where the model's rows lie, behind it -/
def r_off : Nat → Nat | 1 => 1 | 2 => 2 | 4 => 3 | 5 => 4 | 7 => 5 | 14 => 6 | 18 => 7 | 19 => 8 | 20 => 9 | 21 => 10 | 22 => 11 | 23 => 12 | 24 => 13 | 25 => 14 | _ => 0
/-- what a cell holds, by its kind -/
def w_ce (G : wG) (M : Mem) (a : Nat) : Option va_E :=
  match (m_kd M a).1 with
  | 0 => none
  | 1 => some (.inl (g_I G, (m_kd M a).2, .inl (m_iv M a)))
  | 2 => some (.inl (g_P G, (m_kd M a).2, .inr (.inr (.inr (.inr (m_rv M a))))))
  | 3 => some (.inl (g_T G, (m_kd M a).2, .inr (.inr (.inr (.inr (m_rv M a))))))
  | 4 => some (.inl (g_J G, (m_kd M a).2, .inr (.inl (m_lv M a))))
  | 10 => some (.inr (0, w_fs (m_iv M a) (m_rv M a) 0))
  | 11 => some (.inr (1, w_fs (m_iv M a) (m_rv M a) 1))
  | 12 => some (.inr (2, w_fs (m_iv M a) (m_rv M a) 2))
  | 13 => some (.inr (3, w_fs (m_iv M a) (m_rv M a) 3))
  | 14 => some (.inr (4, w_fs (m_iv M a) (m_rv M a) 4))
  | 15 => some (.inr (5, w_fs (m_iv M a) (m_rv M a) 5))
  | 16 => some (.inr (6, w_fs (m_iv M a) (m_rv M a) 6))
  | 17 => some (.inr (7, w_fs (m_iv M a) (m_rv M a) 7))
  | 18 => some (.inr (8, w_fs (m_iv M a) (m_rv M a) 8))
  | 19 => some (.inr (9, w_fs (m_iv M a) (m_rv M a) 9))
  | 20 => some (.inr (10, w_fs (m_iv M a) (m_rv M a) 10))
  | 21 => some (.inr (11, w_fs (m_iv M a) (m_rv M a) 11))
  | _ => none
theorem w_ce_o {G : wG} {M : Mem} {a ci : Nat} (hc : ci < 12) (h : (m_kd M a).1 = 10 + ci) : w_ce G M a = some (.inr (ci, w_fs (m_iv M a) (m_rv M a) ci)) := by
  match ci, hc, h with
  | 0, _, h => simp [w_ce, h]
  | 1, _, h => simp [w_ce, h]
  | 2, _, h => simp [w_ce, h]
  | 3, _, h => simp [w_ce, h]
  | 4, _, h => simp [w_ce, h]
  | 5, _, h => simp [w_ce, h]
  | 6, _, h => simp [w_ce, h]
  | 7, _, h => simp [w_ce, h]
  | 8, _, h => simp [w_ce, h]
  | 9, _, h => simp [w_ce, h]
  | 10, _, h => simp [w_ce, h]
  | 11, _, h => simp [w_ce, h]
theorem w_ce_i {G : wG} {M : Mem} {a : Nat} (h : (m_kd M a).1 = 1) : w_ce G M a = some (.inl (g_I G, (m_kd M a).2, .inl (m_iv M a))) := by simp [w_ce, h]
theorem w_ce_p {G : wG} {M : Mem} {a : Nat} (h : (m_kd M a).1 = 2) : w_ce G M a = some (.inl (g_P G, (m_kd M a).2, .inr (.inr (.inr (.inr (m_rv M a)))))) := by simp [w_ce, h]
theorem w_ce_t {G : wG} {M : Mem} {a : Nat} (h : (m_kd M a).1 = 3) : w_ce G M a = some (.inl (g_T G, (m_kd M a).2, .inr (.inr (.inr (.inr (m_rv M a)))))) := by simp [w_ce, h]
theorem w_ce_j {G : wG} {M : Mem} {a : Nat} (h : (m_kd M a).1 = 4) : w_ce G M a = some (.inl (g_J G, (m_kd M a).2, .inr (.inl (m_lv M a)))) := by simp [w_ce, h]
/-- two memories with the same in a cell hold the same there -/
theorem w_ce_eq {G : wG} {M N : Mem} {a : Nat} (hk : m_kd N a = m_kd M a) (hi : m_iv N a = m_iv M a) (hr : m_rv N a = m_rv M a) (hl : m_lv N a = m_lv M a) : w_ce G N a = w_ce G M a := by
  simp only [w_ce, hk, hi, hr, hl]
theorem w_ce_0 {G : wG} {M : Mem} {a : Nat} {e : va_E} (h : w_ce G M a = some e) : (m_kd M a).1 ≠ 0 := by
  intro h0
  simp [w_ce, h0] at h
/-- the model's cells -/
def r_P (G : wG) (r : Rho) (H : Heap) : Prop :=
  va_at (g_D G) vwCl (g_r G, .inr (11, w_fs r.1 (fun j => some (g_r G + r_off j)) 11)) H ∧ ∀ j, 0 < r_off j → va_at (g_D G) vwCl (g_r G + r_off j, .inl (g_I G, r_len j, .inl (r.2 j))) H
/-- the world in a heap -/
def w_H (G : wG) (M : Mem) (r : Rho) (H : Heap) : Prop :=
  H.size = m_sz M ∧ (∀ a, (m_kd M a).1 ≠ 0 → g_lo G ≤ a ∧ a < m_sz M) ∧ (∀ a e, w_ce G M a = some e → va_at (g_D G) vwCl (a, e) H) ∧
  (g_on G = true → g_lo G ≤ g_r G ∧ g_r G + 15 ≤ m_sz M ∧ (∀ k, k < 15 → (m_kd M (g_r G + k)).1 = 0) ∧ r_P G r H)
/-- .. as a walk has it: the heap H, from the heap of the call on -/
def w_W (G : wG) (M : Mem) (r : Rho) (s : State) (H : Heap) (locs : List Loc) : Prop := w_H G M r H ∧ va_S (g_A G) s.heap H locs
