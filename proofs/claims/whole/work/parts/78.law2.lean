/-! a law's lines -/
/-- the greeting of the first line that holds -/
def lwR (g : Nat → Int32) (cv : Nat → Int32) : Nat → Nat → Int32
  | 0, _ => -1
  | j + 1, k => if cv k = 0 then lwR g cv j (k + 1) else g k
/-- where a line's steps begin -/
def stA (en : Nat → Nat) (k : Nat) : Nat := if k = 0 then 0 else en (k - 1)
/-- the law at a, as the class holds it, answers lw -/
def LawC (M : Mem) (a : Nat) (lw : (Nat → Int32) → Int32) : Prop :=
  ∃ (c n : Nat) (en : Nat → Nat) (cv : (Nat → Int32) → Nat → Int32), LawShape M a c ∧ n ≤ 12 ∧ m_iv M a 0 = iN n ∧ (∀ k, k < n → m_iv M (a + 2) k = iN (en k) ∧ en k ≤ c ∧ nx (m_iv M (a + 1) k) 32) ∧
    (∀ F k, k < n → (stA en k = en k ∧ cv F k = 1) ∨ (stA en k < en k ∧ Seg F (m_iv M (a + 4)) (m_iv M (a + 5)) (stA en k) (en k) 20 (cv F k))) ∧ ∀ F, lw F = lwR (m_iv M (a + 1)) (cv F) n 0
section Lx
variable {M : Mem} {t a c N p o : Nat} {m : Nat → Int32}
theorem f_Law_holds_eq (S : Shape M t) (I : Inv m) (R : TRel M t m) (L : LawShape M a c) (hd : ¬ (t ≤ a + 3 ∧ a + 3 < t + 41)) (hp : p < cn m 5) (ho : o < cn m 5) (hN : 500 < N) {i e : Nat} {v : Int32} (he : e ≤ c) (hv : (i = e ∧ v = 1) ∨ (i < e ∧ Seg (fcM m p o) (m_iv M (a + 4)) (m_iv M (a + 5)) i e 20 v)) :
    ∃ f, f_Law_holds N a (iN i) (iN e) t (iN p) (iN o) M = some (if v = 0 then 0 else 1, mO M a f) := by
  have hc := L.2.2
  unfold f_Law_holds
  rcases hv with ⟨rfl, rfl⟩ | ⟨hie, hs⟩
  · refine ⟨m_iv M (a + 3), ?_⟩
    rw [if_pos rfl, if_neg (by decide), mO_id]
  · rw [if_neg (iN_ne (by omega) (by omega) (by omega))]
    obtain ⟨-, hs⟩ := hs
    obtain ⟨o', h1, h2, h3⟩ := hs 0 (m_iv M (a + 3)) (by decide)
    refine ⟨o', ?_⟩
    have h := lp_runP (F := fun fuel k z => f_Law_holds_13 N a (iN i) (iN e) t (iN p) (iN o) fuel (iN z.1) (iN k) (mO M a z.2)) (f := fun k z => evL (fcM m p o) (m_iv M (a + 4) k) (m_iv M (a + 5) k) z) (fin := fun z => f_Law_holds_188 N a (iN i) (iN e) t (iN p) (iN o) (mO M a z.2)) (n := e) (P := fun _ z => z.1 ≤ 32)
      (fun fuel z hz => by
        show f_Law_holds_13 N a (iN i) (iN e) t (iN p) (iN o) (fuel + 1) (iN z.1) (iN e) (mO M a z.2) = _
        simp only [f_Law_holds_13, i_le_rfl, ↓reduceIte])
      (fun fuel k z hk hz => ⟨holds_turn S I R L hd hp ho hk he z hz (iN i), evL_le hz⟩) (e - i) i (0, m_iv M (a + 3)) N (by omega) (by omega) (Nat.zero_le 32)
    have h4 := h.1
    rw [h1] at h4
    have h5 : f_Law_holds_13 N a (iN i) (iN e) t (iN p) (iN o) N 0 (iN i) M = f_Law_holds_188 N a (iN i) (iN e) t (iN p) (iN o) (mO M a o') := by
      have h6 : f_Law_holds_13 N a (iN i) (iN e) t (iN p) (iN o) N (iN 0) (iN i) (mO M a (m_iv M (a + 3))) = f_Law_holds_188 N a (iN i) (iN e) t (iN p) (iN o) (mO M a o') := h4
      rw [mO_id] at h6
      exact h6
    rw [h5]
    have L2 := L.opn a o'
    unfold f_Law_holds_188
    have e0 : ald (mO M a o') (a + 3) 0 = some v := by
      have := L2.a3 (k := 0) (by decide)
      rw [mO_iv, h3] at this
      exact this
    rw [L2.g6, ob, e0, ob]
    by_cases h6 : v = 0
    · rw [if_pos h6, if_pos h6]
    · rw [if_neg h6, if_neg h6]
theorem LawC.opn {lw : (Nat → Int32) → Int32} (h : LawC M a lw) (f : Nat → Int32) : LawC (mO M a f) a lw := by
  obtain ⟨c, n, en, cv, h1, h2, h3, h4, h5, h6⟩ := h
  refine ⟨c, n, en, cv, h1, h2, ?_, ?_, ?_, ?_⟩
  · rw [mO_ne (by omega)]; exact h3
  · rw [mO_ne (by omega), mO_ne (by omega)]; exact h4
  · rw [mO_ne (by omega), mO_ne (by omega)]; exact h5
  · rw [mO_ne (by omega)]; exact h6
theorem f_Law_greetingFor_eq {lw : (Nat → Int32) → Int32} (S : Shape M t) (I : Inv m) (R : TRel M t m) (L : LawC M a lw) (hd : ¬ (t ≤ a + 3 ∧ a + 3 < t + 41)) (hp : p < cn m 5) (ho : o < cn m 5) (hN : 500 < N) :
    ∃ f, f_Law_greetingFor N a t (iN p) (iN o) M = some (lw (fcM m p o), mO M a f) := by
  obtain ⟨c, n, en, cv, L1, h2, h3, h4, h5, h6⟩ := L
  rw [h6]
  have hc := L1.2.2
  unfold f_Law_greetingFor
  have key : ∀ (j k fuel : Nat) (g : Nat → Int32), k + j = n → j < fuel → ∃ f, f_Law_greetingFor_6 N a t (iN p) (iN o) fuel (iN (stA en k)) (iN k) (mO M a g) = some (lwR (m_iv M (a + 1)) (cv (fcM m p o)) j k, mO M a f) := by
    intro j
    induction j with
    | zero =>
      intro k fuel g hk hf
      obtain ⟨fu, rfl⟩ : ∃ fu, fuel = fu + 1 := ⟨fuel - 1, by omega⟩
      obtain rfl : k = n := by omega
      refine ⟨g, ?_⟩
      have L2 := L1.opn a g
      have e0 : m_iv (mO M a g) a 0 = iN k := by rw [mO_ne (by omega)]; exact h3
      simp only [f_Law_greetingFor_6, L2.i0, e0, ob, i_le_rfl, ↓reduceIte]
      rfl
    | succ j ih =>
      intro k fuel g hk hf
      obtain ⟨fu, rfl⟩ : ∃ fu, fuel = fu + 1 := ⟨fuel - 1, by omega⟩
      have hk2 : k < n := by omega
      have L2 := L1.opn a g
      have S2 := S.opn a g
      have R2 : TRel (mO M a g) t m := R.frame fun b h1 h2 => mO_ne (fun q => hd ⟨by omega, by omega⟩)
      have e0 : m_iv (mO M a g) a 0 = iN n := by rw [mO_ne (by omega)]; exact h3
      obtain ⟨h7, h8, h9⟩ := h4 k hk2
      have e2 : m_iv (mO M a g) (a + 2) k = iN (en k) := by rw [mO_ne (by omega)]; exact h7
      have e4 : m_iv (mO M a g) (a + 4) = m_iv M (a + 4) := mO_ne (by omega)
      have e5 : m_iv (mO M a g) (a + 5) = m_iv M (a + 5) := mO_ne (by omega)
      have hs := h5 (fcM m p o) k hk2
      rw [← e4, ← e5] at hs
      obtain ⟨f, hf⟩ := f_Law_holds_eq (N := N) S2 I R2 L2 hd hp ho hN h8 (hs.imp (fun q => ⟨q.1, q.2⟩) id)
      have g1 : ¬ iN n ≤ iN k := iN_nle hk2 (by omega)
      have g2 : ¬ (12 : Int32) ≤ iN k := iN_nle (n := 12) (by omega) (by decide)
      have L3 := L1.opn a f
      have e6 : m_iv (mO M a f) (a + 2) k = iN (en k) := by rw [mO_ne (by omega)]; exact h7
      have e7 : m_iv (mO M a f) (a + 1) k = m_iv M (a + 1) k := by rw [mO_ne (by omega)]
      simp only [f_Law_greetingFor_6, L2.i0, e0, ob, g1, g2, ↓reduceIte, L2.g2, L2.c0, L2.a2 (show k < 12 by omega), e2, hf, L3.g2, L3.g1, L3.a2 (show k < 12 by omega), L3.a1 (show k < 12 by omega), e6, e7, iN_s, mO_mO]
      by_cases hv : cv (fcM m p o) k = 0
      · obtain ⟨f2, hf2⟩ := ih (k + 1) fu f (by omega) (by omega)
        refine ⟨f2, ?_⟩
        have e8 : stA en (k + 1) = en k := rfl
        rw [e8] at hf2
        rw [if_pos hv, if_pos rfl, hf2]
        show _ = some (if cv (fcM m p o) k = 0 then _ else _, _)
        rw [if_pos hv]
      · refine ⟨f, ?_⟩
        rw [if_neg hv, if_neg (by decide)]
        show _ = some (if cv (fcM m p o) k = 0 then _ else _, _)
        rw [if_neg hv]
  obtain ⟨f, hf⟩ := key n 0 N (m_iv M (a + 3)) (by omega) (by omega)
  rw [mO_id] at hf
  exact ⟨f, hf⟩
end Lx
