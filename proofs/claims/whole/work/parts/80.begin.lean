/-! the model's state but for what it scratches in -/
/-- what a law asks by yes or no is one of them -/
def Bz (r : Rho) : Prop := (r.1 15 = 0 ∨ r.1 15 = 1) ∧ (r.1 16 = 0 ∨ r.1 16 = 1)
def Sx (r q : Rho) : Prop := (q.2 1 = r.2 1 ∧ q.2 2 = r.2 2 ∧ q.2 4 = r.2 4 ∧ q.2 5 = r.2 5 ∧ q.2 7 = r.2 7) ∧ q.1 0 = r.1 0 ∧ q.1 3 = r.1 3 ∧ q.1 6 = r.1 6 ∧ q.1 8 = r.1 8 ∧ (Bz r → Bz q)
/-- .. and the fault too -/
def Sr (r q : Rho) : Prop := Sx r q ∧ q.1 12 = r.1 12
theorem Sx.refl (r : Rho) : Sx r r := ⟨⟨rfl, rfl, rfl, rfl, rfl⟩, rfl, rfl, rfl, rfl, id⟩
theorem Sr.refl (r : Rho) : Sr r r := ⟨Sx.refl r, rfl⟩
theorem Sx.trans {r q s : Rho} (h : Sx r q) (k : Sx q s) : Sx r s :=
  ⟨⟨k.1.1.trans h.1.1, k.1.2.1.trans h.1.2.1, k.1.2.2.1.trans h.1.2.2.1, k.1.2.2.2.1.trans h.1.2.2.2.1, k.1.2.2.2.2.trans h.1.2.2.2.2⟩, k.2.1.trans h.2.1, k.2.2.1.trans h.2.2.1, k.2.2.2.1.trans h.2.2.2.1, k.2.2.2.2.1.trans h.2.2.2.2.1, fun z => k.2.2.2.2.2 (h.2.2.2.2.2 z)⟩
theorem Sr.trans {r q s : Rho} (h : Sr r q) (k : Sr q s) : Sr r s := ⟨h.1.trans k.1, k.2.trans h.2⟩
theorem Sr.putM {r q : Rho} (h : Sr r q) (m : Nat → Int32) : Sr (setM r m) (setM q m) := ⟨⟨⟨rfl, h.1.1.2.1, h.1.1.2.2.1, h.1.1.2.2.2.1, h.1.1.2.2.2.2⟩, h.1.2⟩, h.2⟩
theorem st_row {r : Rho} {j i k : Nat} {v : Int32} (h : k ≠ j) : (r_st r j i v).2 k = r.2 k := by
  funext x
  show (if k = j ∧ x = i then v else r.2 k x) = r.2 k x
  rw [if_neg (fun q => h q.1)]
theorem st_f (r : Rho) (j i : Nat) (v : Int32) : (r_st r j i v).1 = r.1 := rfl
theorem st_own (r : Rho) (j i : Nat) (v : Int32) : (r_st r j i v).2 j = up1 (r.2 j) i v := by
  funext x
  show (if j = j ∧ x = i then v else r.2 j x) = _
  rw [up1_at]
  by_cases h : x = i
  · rw [if_pos ⟨rfl, h⟩, if_pos h]
  · rw [if_neg (fun q => h q.2), if_neg h]
theorem Sr.st {r : Rho} {j i : Nat} {v : Int32} (h : j ≠ 1 ∧ j ≠ 2 ∧ j ≠ 4 ∧ j ≠ 5 ∧ j ≠ 7) : Sr r (r_st r j i v) :=
  ⟨⟨⟨st_row fun q => h.1 q.symm, st_row fun q => h.2.1 q.symm, st_row fun q => h.2.2.1 q.symm, st_row fun q => h.2.2.2.1 q.symm, st_row fun q => h.2.2.2.2 q.symm⟩, rfl, rfl, rfl, rfl, id⟩, rfl⟩
theorem set_f {r : Rho} {j k : Nat} {v : Int32} (h : k ≠ j) : (r_set r j v).1 k = r.1 k := if_neg h
theorem set_s (r : Rho) (j : Nat) (v : Int32) : (r_set r j v).1 j = v := if_pos rfl
theorem set_2 (r : Rho) (j : Nat) (v : Int32) : (r_set r j v).2 = r.2 := rfl
theorem Sx.set {r : Rho} {j : Nat} {v : Int32} (h : j ≠ 0 ∧ j ≠ 3 ∧ j ≠ 6 ∧ j ≠ 8 ∧ j ≠ 15 ∧ j ≠ 16) : Sx r (r_set r j v) :=
  ⟨⟨rfl, rfl, rfl, rfl, rfl⟩, set_f fun q => h.1 q.symm, set_f fun q => h.2.1 q.symm, set_f fun q => h.2.2.1 q.symm, set_f fun q => h.2.2.2.1 q.symm, fun z => by
    unfold Bz
    rw [set_f (fun q => h.2.2.2.2.1 q.symm), set_f (fun q => h.2.2.2.2.2 q.symm)]
    exact z⟩
theorem Sx.setb {r : Rho} {j : Nat} {v : Int32} (hj : j = 15 ∨ j = 16) (hv : v = 0 ∨ v = 1) : Sx r (r_set r j v) := by
  rcases hj with rfl | rfl
  · exact ⟨⟨rfl, rfl, rfl, rfl, rfl⟩, rfl, rfl, rfl, rfl, fun z => ⟨hv, z.2⟩⟩
  · exact ⟨⟨rfl, rfl, rfl, rfl, rfl⟩, rfl, rfl, rfl, rfl, fun z => ⟨z.1, hv⟩⟩
theorem Sr.set {r : Rho} {j : Nat} {v : Int32} (h : (j ≠ 0 ∧ j ≠ 3 ∧ j ≠ 6 ∧ j ≠ 8 ∧ j ≠ 15 ∧ j ≠ 16) ∧ j ≠ 12) : Sr r (r_set r j v) := ⟨Sx.set h.1, set_f fun q => h.2 q.symm⟩
theorem Sr.setb {r : Rho} {j : Nat} {v : Int32} (hj : j = 15 ∨ j = 16) (hv : v = 0 ∨ v = 1) : Sr r (r_set r j v) := ⟨Sx.setb hj hv, set_f (by omega)⟩
/-- what the model's facts tell -/
def fcR (r : Rho) : Nat → Int32
  | 0 => r.2 14 0
  | 1 => r.2 14 1
  | 2 => r.2 14 2
  | 3 => r.2 14 3
  | 4 => r.2 14 4
  | 5 => r.2 14 5
  | 6 => r.1 15
  | _ => r.1 16
/-- read anew from its text in m, the law answers lw -/
def RdOK (N : Nat) (m : Nat → Int32) (lw : (Nat → Int32) → Int32) : Prop :=
  (m 1 ≤ 0 ∧ ∀ F, lw F = -1) ∨ (0 < m 1 ∧ ∀ r : Rho, (∀ k, k < 400 → r.2 1 (900 + k) = m (900 + k)) → r.1 9 = 900 → r.1 10 = m 2 → r.1 11 = 0 → r.1 12 = -1 → r.1 13 = 0 → r.1 17 = -1 → (r.1 15 = 0 ∨ r.1 15 = 1) → (r.1 16 = 0 ∨ r.1 16 = 1) → ∃ v q, f_R_read N 1 r = some (v, q) ∧ q.1 17 = lw (fcR r) ∧ Sx r q)
theorem wf0 (r : Rho) (v : Int32) : rst r 14 0 v = some (r_st r 14 0 v) := rst_iN (k := 0) (by decide)
theorem wf1 (r : Rho) (v : Int32) : rst r 14 1 v = some (r_st r 14 1 v) := rst_iN (k := 1) (by decide)
theorem wf2 (r : Rho) (v : Int32) : rst r 14 2 v = some (r_st r 14 2 v) := rst_iN (k := 2) (by decide)
theorem wf3 (r : Rho) (v : Int32) : rst r 14 3 v = some (r_st r 14 3 v) := rst_iN (k := 3) (by decide)
theorem wf4 (r : Rho) (v : Int32) : rst r 14 4 v = some (r_st r 14 4 v) := rst_iN (k := 4) (by decide)
theorem wf5 (r : Rho) (v : Int32) : rst r 14 5 v = some (r_st r 14 5 v) := rst_iN (k := 5) (by decide)
theorem st14 (r : Rho) (i : Nat) (v : Int32) : (r_st r 14 i v).2 1 = r.2 1 := st_row (by decide)
section Be
variable {r : Rho} {N p o : Nat} {lw : (Nat → Int32) → Int32}
theorem f_R_beginning_184_eq (hp : p < 10) (ho : o < 10) : f_R_beginning_184 N (iN p) (iN o) r = some (if r.1 17 = -1 then (if swC (r.2 1) p o = -1 then pC (r.2 1) p 1 else swC (r.2 1) p o) else r.1 17, r) := by
  unfold f_R_beginning_184
  simp only [ldS hp ho, of1 hp, ob]
  by_cases h1 : r.1 17 = -1
  · rw [if_pos h1, if_pos h1]
    by_cases h2 : swC (r.2 1) p o = -1
    · rw [if_pos h2, if_pos h2]
    · rw [if_neg h2, if_neg h2]
  · rw [if_neg h1, if_neg h1]
theorem rd1_st (s : Rho) : rld s 1 1 = some (s.2 1 1) := rlm1 s
/-- from the facts on -/
theorem f_R_beginning_118_eq {m : Nat → Int32} (hm : r.2 1 = m) (K : RdOK N m lw) (hp : p < 10) (ho : o < 10) (h15 : r.1 15 = 0 ∨ r.1 15 = 1) {y : Int32} (hy : y = 0 ∨ y = 1) (F : Nat → Int32) (hF : fcR (r_set r 16 y) = F) :
    ∃ q, f_R_beginning_118 N (iN p) (iN o) y r = some (if lw F = -1 then (if swC m p o = -1 then pC m p 1 else swC m p o) else lw F, q) ∧ Sr r q := by
  unfold f_R_beginning_118
  rw [show rpZ r 16 y = some (r_set r 16 y) from if_pos hy, ob]
  have e1 : rld (r_set (r_set r 16 y) 17 (-1)) 1 1 = some (m 1) := (rlm1 _).trans (congrArg (fun f => some (f 1)) hm)
  rw [e1, ob]
  rcases K with ⟨k1, k2⟩ | ⟨k1, k2⟩
  · rw [if_pos k1, f_R_beginning_184_eq hp ho]
    refine ⟨_, ?_, (Sr.setb (r := r) (j := 16) (v := y) (Or.inr rfl) hy).trans (Sr.set (j := 17) (v := -1) (by decide))⟩
    rw [set_s, if_pos rfl, if_pos (k2 F)]
    show some ((if swC (r.2 1) p o = -1 then pC (r.2 1) p 1 else swC (r.2 1) p o), _) = _
    rw [hm]
  · rw [if_neg (Int32.not_le.mpr k1)]
    have e2 : rld (r_set (r_set (r_set (r_set r 16 y) 17 (-1)) 12 (-1)) 9 900) 1 2 = some (m 2) := (rlm2 _).trans (congrArg (fun f => some (f 2)) hm)
    rw [e2, ob]
    generalize hs : r_set (r_set (r_set (r_set (r_set (r_set (r_set r 16 y) 17 (-1)) 12 (-1)) 9 900) 10 (m 2)) 11 0) 13 0 = s
    have hs1 : s.2 = r.2 := by rw [← hs]; rfl
    have f9 : s.1 9 = 900 := by rw [← hs]; rfl
    have f10 : s.1 10 = m 2 := by rw [← hs]; rfl
    have f11 : s.1 11 = 0 := by rw [← hs]; rfl
    have f12 : s.1 12 = -1 := by rw [← hs]; rfl
    have f13 : s.1 13 = 0 := by rw [← hs]; rfl
    have f17 : s.1 17 = -1 := by rw [← hs]; rfl
    have f15 : s.1 15 = r.1 15 := by rw [← hs]; rfl
    have f16 : s.1 16 = y := by rw [← hs]; rfl
    have hx : Sx r s := by rw [← hs]; exact ⟨⟨rfl, rfl, rfl, rfl, rfl⟩, rfl, rfl, rfl, rfl, fun z => ⟨z.1, hy⟩⟩
    obtain ⟨v, q, h1, h2, h3⟩ := k2 s (fun k _ => by rw [hs1, hm]) f9 f10 f11 f12 f13 f17 (by rw [f15]; exact h15) (by rw [f16]; exact hy)
    have hF2 : fcR s = F := by
      rw [← hF]
      funext k
      match k with
      | 0 => exact congrFun (congrFun hs1 14) 0
      | 1 => exact congrFun (congrFun hs1 14) 1
      | 2 => exact congrFun (congrFun hs1 14) 2
      | 3 => exact congrFun (congrFun hs1 14) 3
      | 4 => exact congrFun (congrFun hs1 14) 4
      | 5 => exact congrFun (congrFun hs1 14) 5
      | 6 => exact f15
      | _ + 7 => exact f16
    rw [h1, ob, f_R_beginning_184_eq hp ho]
    have e12 : (r_set (r_set r 16 y) 17 (-1)).1 12 = r.1 12 := rfl
    refine ⟨_, ?_, (hx.trans h3).trans (Sx.set (j := 12) (by decide)), (set_s _ 12 _).trans e12⟩
    have e17 : (r_set q 12 ((r_set (r_set r 16 y) 17 (-1)).1 12)).1 17 = lw F := by
      rw [set_f (by decide), h2, hF2]
    have em : (r_set q 12 ((r_set (r_set r 16 y) 17 (-1)).1 12)).2 1 = m := by
      rw [set_2, h3.1.1, hs1, hm]
    rw [e17, em]
theorem f_R_beginning_eq (K : RdOK N (r.2 1) lw) (hp : p < 10) (ho : o < 10) (c1 : pC (r.2 1) p 4 = 0 ∨ pC (r.2 1) p 4 = 1) (c2 : pC (r.2 1) o 4 = 0 ∨ pC (r.2 1) o 4 = 1) :
    ∃ q, f_R_beginning N (iN p) (iN o) r = some (bgM lw (r.2 1) p o, q) ∧ Sr r q := by
  unfold f_R_beginning
  simp only [wf0, wf1, wf2, wf3, wf4, wf5, of2 hp, of2 ho, of0 hp, of0 ho, ldM hp ho, rlm7, st14, ob]
  generalize hs : r_st (r_st (r_st (r_st (r_st (r_st r 14 0 (iN p)) 14 1 (iN o)) 14 2 (pC (r.2 1) p 2)) 14 3 (pC (r.2 1) o 2)) 14 4 (mt (r.2 1) p o)) 14 5 (r.2 1 7) = s
  have hx : Sr r s := by
    rw [← hs]
    have h := fun (r : Rho) (i : Nat) (v : Int32) => Sr.st (r := r) (j := 14) (i := i) (v := v) (by decide)
    exact (((((h _ _ _).trans (h _ _ _)).trans (h _ _ _)).trans (h _ _ _)).trans (h _ _ _)).trans (h _ _ _)
  have hm : s.2 1 = r.2 1 := hx.1.1.1
  have hf : ∀ k, k < 6 → s.2 14 k = fcM (r.2 1) p o k := by
    intro k hk
    rw [← hs]
    match k, hk with
    | 0, _ => rfl
    | 1, _ => rfl
    | 2, _ => rfl
    | 3, _ => rfl
    | 4, _ => rfl
    | 5, _ => rfl
  have key : ∀ y, (y = if pC (r.2 1) p 0 = pC (r.2 1) o 0 then (1 : Int32) else 0) → ∃ q, f_R_beginning_93 N (iN p) (iN o) y s = some (bgM lw (r.2 1) p o, q) ∧ Sr s q := by
    intro y hy
    have hy1 : y = 0 ∨ y = 1 := by
      rw [hy]
      by_cases h : pC (r.2 1) p 0 = pC (r.2 1) o 0
      · exact Or.inr (if_pos h)
      · exact Or.inl (if_neg h)
    unfold f_R_beginning_93
    rw [show rpZ s 15 y = some (r_set s 15 y) from if_pos hy1, ob, of4 hp, of4 ho, ob, ob]
    have h1 : Sr s (r_set s 15 y) := Sr.setb (Or.inl rfl) hy1
    have hm2 : (r_set s 15 y).2 1 = r.2 1 := hm
    rw [hm2]
    have fin : ∀ x, (x = if pC (r.2 1) p 4 = 0 ∧ pC (r.2 1) o 4 = 0 then (0 : Int32) else 1) → ∃ q, f_R_beginning_118 N (iN p) (iN o) x (r_set s 15 y) = some (bgM lw (r.2 1) p o, q) ∧ Sr s q := by
      intro x hx
      have hx1 : x = 0 ∨ x = 1 := by
        rw [hx]
        by_cases h : pC (r.2 1) p 4 = 0 ∧ pC (r.2 1) o 4 = 0
        · exact Or.inl (if_pos h)
        · exact Or.inr (if_neg h)
      obtain ⟨q, h2, h3⟩ := f_R_beginning_118_eq (N := N) (r := r_set s 15 y) (lw := lw) hm2 K hp ho hy1 hx1 (fcM (r.2 1) p o) (by
        funext k
        match k with
        | 0 => exact hf 0 (by decide)
        | 1 => exact hf 1 (by decide)
        | 2 => exact hf 2 (by decide)
        | 3 => exact hf 3 (by decide)
        | 4 => exact hf 4 (by decide)
        | 5 => exact hf 5 (by decide)
        | 6 => exact hy
        | _ + 7 => exact hx)
      exact ⟨q, h2, h1.trans h3⟩
    rcases c1 with c1 | c1 <;> rcases c2 with c2 | c2
    · rw [if_pos (by rw [c1, c2]; decide)]
      exact fin 0 (if_pos ⟨c1, c2⟩).symm
    · rw [if_neg (by rw [c1, c2]; decide)]
      refine fin 1 (if_neg fun q => ?_).symm
      rw [c2] at q
      exact absurd q.2 (by decide)
    · rw [if_neg (by rw [c1, c2]; decide)]
      refine fin 1 (if_neg fun q => ?_).symm
      rw [c1] at q
      exact absurd q.1 (by decide)
    · rw [if_neg (by rw [c1, c2]; decide)]
      refine fin 1 (if_neg fun q => ?_).symm
      rw [c1] at q
      exact absurd q.1 (by decide)
  by_cases h : pC (r.2 1) p 0 = pC (r.2 1) o 0
  · rw [if_pos h]
    obtain ⟨q, h1, h2⟩ := key 1 (if_pos h).symm
    exact ⟨q, h1, hx.trans h2⟩
  · rw [if_neg h]
    obtain ⟨q, h1, h2⟩ := key 0 (if_neg h).symm
    exact ⟨q, h1, hx.trans h2⟩
end Be
