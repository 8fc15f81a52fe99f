/-! what a town's work leaves as it was -/
theorem iv_same (M : Mem) (a j : Nat) (v : Int32) : m_iv (m_setI M a j v) a = up1 (m_iv M a) j v := by
  funext k
  rw [iv_setI, up1_at]
  by_cases h : k = j
  · rw [if_pos ⟨rfl, h⟩, if_pos h]
  · rw [if_neg (fun q => h q.2), if_neg h]
theorem iv_ne {M : Mem} {a j b : Nat} {v : Int32} (h : b ≠ a) : m_iv (m_setI M a j v) b = m_iv M b := by
  funext k
  rw [iv_setI, if_neg (fun q => h q.1)]
theorem LawC.cong {M N : Mem} {a : Nat} {lw : (Nat → Int32) → Int32} (h : LawC M a lw) (hk : ∀ b, a ≤ b → b < a + 6 → m_kd N b = m_kd M b) (hr : m_rv N a = m_rv M a) (hi : ∀ b, a ≤ b → b < a + 6 → b ≠ a + 3 → m_iv N b = m_iv M b) : LawC N a lw := by
  obtain ⟨c, n, en, cv, ⟨⟨l1, l2, l3, l4, l5, l6⟩, ⟨k1, k2, k3, k4, k5⟩, kc⟩, h2, h3, h4, h5, h6⟩ := h
  refine ⟨c, n, en, cv, ⟨⟨?_, ?_, ?_, ?_, ?_, ?_⟩, ⟨?_, ?_, ?_, ?_, ?_⟩, kc⟩, h2, ?_, ?_, ?_, ?_⟩
  · rw [hk a (by omega) (by omega)]; exact l1
  · rw [hr]; exact l2
  · rw [hr]; exact l3
  · rw [hr]; exact l4
  · rw [hr]; exact l5
  · rw [hr]; exact l6
  · rw [hk (a + 1) (by omega) (by omega)]; exact k1
  · rw [hk (a + 2) (by omega) (by omega)]; exact k2
  · rw [hk (a + 3) (by omega) (by omega)]; exact k3
  · rw [hk (a + 4) (by omega) (by omega)]; exact k4
  · rw [hk (a + 5) (by omega) (by omega)]; exact k5
  · rw [hi a (by omega) (by omega) (by omega)]; exact h3
  · rw [hi (a + 1) (by omega) (by omega) (by omega), hi (a + 2) (by omega) (by omega) (by omega)]; exact h4
  · rw [hi (a + 4) (by omega) (by omega) (by omega), hi (a + 5) (by omega) (by omega) (by omega)]; exact h5
  · rw [hi (a + 1) (by omega) (by omega) (by omega)]; exact h6
/-- laws keep to themselves: the open row of one is no cell of another one that is read -/
theorem LawC.other {M : Mem} {a b c : Nat} {lw : (Nat → Int32) → Int32} (h : LawC M a lw) (L : LawShape M b c) (f : Nat → Int32) : LawC (mO M b f) a lw := by
  have h9 := h
  obtain ⟨c2, n, en, cv, ⟨⟨l1, -⟩, ⟨k1, k2, k3, k4, k5⟩, kc⟩, -⟩ := h
  obtain ⟨⟨m1, -⟩, ⟨j1, j2, j3, j4, j5⟩, jc⟩ := L
  refine h9.cong (fun _ _ _ => rfl) rfl fun d h1 h2 h3 => mO_ne fun q => ?_
  have h4 : d = a ∨ d = a + 1 ∨ d = a + 2 ∨ d = a + 4 ∨ d = a + 5 := by omega
  rcases h4 with h4 | h4 | h4 | h4 | h4
  · rw [← q, h4, l1] at j3; cases j3
  · rw [← q, h4, k1] at j3; cases j3
  · rw [← q, h4, k2] at j3; cases j3
  · have : b = a + 1 := by omega
    rw [this, k1] at m1
    cases m1
  · have : b = a + 2 := by omega
    rw [this, k2] at m1
    cases m1
/-- ints in n cells from u on alone have changed, below B; all laws from B on are as they were -/
def Fr (u n B : Nat) (M N : Mem) : Prop := (m_sz N = m_sz M ∧ m_kd N = m_kd M ∧ m_rv N = m_rv M ∧ m_lv N = m_lv M) ∧ (∀ b, b < B → ¬ (u ≤ b ∧ b < u + n) → m_iv N b = m_iv M b) ∧ ∀ a lw, B ≤ a → LawC M a lw → LawC N a lw ∧ m_iv N a 0 = m_iv M a 0
theorem LawC.off {M : Mem} {a b c : Nat} {lw : (Nat → Int32) → Int32} (h : LawC M a lw) (L : LawShape M b c) : a ≠ b + 3 := by
  intro q
  obtain ⟨c2, n, en, cv, ⟨⟨l1, -⟩, -⟩, -⟩ := h
  have j3 := L.2.1.2.2.1
  rw [← q, l1] at j3
  cases j3
section Ff
variable {u n B t a : Nat} {M N K : Mem} {lw : (Nat → Int32) → Int32}
theorem Fr.refl : Fr u n B M M := ⟨⟨rfl, rfl, rfl, rfl⟩, fun _ _ _ => rfl, fun _ _ _ h => ⟨h, rfl⟩⟩
theorem Fr.trans (h1 : Fr u n B M N) (h2 : Fr u n B N K) : Fr u n B M K :=
  ⟨⟨h2.1.1.trans h1.1.1, h2.1.2.1.trans h1.1.2.1, h2.1.2.2.1.trans h1.1.2.2.1, h2.1.2.2.2.trans h1.1.2.2.2⟩, fun b hb hn => (h2.2.1 b hb hn).trans (h1.2.1 b hb hn), fun a lw ha h => ⟨(h2.2.2 a lw ha (h1.2.2 a lw ha h).1).1, (h2.2.2 a lw ha (h1.2.2 a lw ha h).1).2.trans (h1.2.2 a lw ha h).2⟩⟩
theorem Fr.mono {u2 n2 : Nat} (h : Fr u n B M N) (hs : ∀ b, u ≤ b → b < u + n → u2 ≤ b ∧ b < u2 + n2) : Fr u2 n2 B M N :=
  ⟨h.1, fun b hb hn => h.2.1 b hb fun q => hn (hs b q.1 q.2), h.2.2⟩
theorem Fr.none (h : Fr 0 0 B M N) : Fr u n B M N := h.mono fun b h1 h2 => by omega
theorem Fr.setI {j : Nat} {v : Int32} (h1 : u ≤ a) (h2 : a < u + n) (h3 : u + n ≤ B) : Fr u n B M (m_setI M a j v) :=
  ⟨⟨rfl, rfl, rfl, rfl⟩, fun b _ hn => iv_ne fun q => hn ⟨by omega, by omega⟩, fun d lw hd h => ⟨h.cong (fun _ _ _ => rfl) rfl fun b h4 h5 _ => iv_ne fun q => by omega, by rw [iv_ne (by omega)]⟩⟩
theorem Fr.opn {c : Nat} {f : Nat → Int32} (hB : B ≤ a) (L : LawShape M a c) : Fr 0 0 B M (mO M a f) :=
  ⟨⟨rfl, rfl, rfl, rfl⟩, fun b hb _ => mO_ne (by omega), fun d lw _ h => ⟨h.other L f, by rw [mO_ne (h.off L)]⟩⟩
theorem Fr.shape (h : Fr u n B M N) (S : Shape M t) : Shape N t := S.of (fun b _ _ => by rw [h.1.2.1]) (fun b j _ _ _ => by rw [h.1.2.2.1])
theorem Fr.tRel {m : Nat → Int32} (h : Fr u n B M N) (R : TRel M t m) (ht : t + 41 ≤ B) (hd : t + 41 ≤ u ∨ u + n ≤ t) : TRel N t m := R.frame fun b h1 h2 => h.2.1 b (by omega) (by omega)
theorem Fr.tRel0 {m : Nat → Int32} (h : Fr 0 0 B M N) (R : TRel M t m) (ht : t + 41 ≤ B) : TRel N t m := R.frame fun b h1 h2 => h.2.1 b (by omega) (by omega)
/-- the law of the town at t answers lw -/
def WRel (M : Mem) (t B : Nat) (lw : (Nat → Int32) → Int32) (ln : Int32) : Prop := (m_rv M t 6 = none ∧ (∀ F, lw F = -1) ∧ ln = -1) ∨ ∃ a, m_rv M t 6 = some a ∧ B ≤ a ∧ LawC M a lw ∧ m_iv M a 0 = ln
theorem Fr.wRel {ln : Int32} (h : Fr u n B M N) (W : WRel M t B lw ln) : WRel N t B lw ln := by
  rcases W with ⟨h1, h2⟩ | ⟨a, h1, h2, h3, h4⟩
  · exact Or.inl ⟨by rw [h.1.2.2.1]; exact h1, h2⟩
  · exact Or.inr ⟨a, by rw [h.1.2.2.1]; exact h1, h2, (h.2.2 a lw h2 h3).1, (h.2.2 a lw h2 h3).2.trans h4⟩
end Ff
/-- how one begins with another one -/
def bgM (lw : (Nat → Int32) → Int32) (m : Nat → Int32) (p o : Nat) : Int32 :=
  if lw (fcM m p o) = -1 then (if swC m p o = -1 then pC m p 1 else swC m p o) else lw (fcM m p o)
section Fg
variable {M : Mem} {t B N p o : Nat} {m : Nat → Int32} {lw : (Nat → Int32) → Int32} {ln : Int32}
theorem f_Town_greetingFor_21_eq (S : Shape M t) (I : Inv m) (R : TRel M t m) (hp : p < cn m 5) (ho : o < cn m 5) (v : Int32) : f_Town_greetingFor_21 N t (iN p) (iN o) v M = some (if v = -1 then (if swC m p o = -1 then pC m p 1 else swC m p o) else v, M) := by
  have h5 := I.b5
  have hp2 : p < 10 := by omega
  have ho2 : o < 10 := by omega
  unfold f_Town_greetingFor_21
  simp only [S.g_people, S.g_person hp2, S.g_saw hp2, S.aS hp2 ho2, S.iP hp2, R.qs I hp ho2, R.q1 I hp, ob]
  by_cases h1 : v = -1
  · rw [if_pos h1, if_pos h1]
    by_cases h2 : swC m p o = -1
    · rw [if_pos h2, if_pos h2]
    · rw [if_neg h2, if_neg h2]
  · rw [if_neg h1, if_neg h1]
theorem f_Town_greetingFor_eq (S : Shape M t) (I : Inv m) (R : TRel M t m) (W : WRel M t B lw ln) (ht : t + 41 ≤ B) (hN : 500 < N) (hp : p < cn m 5) (ho : o < cn m 5) : ∃ M', f_Town_greetingFor N t (iN p) (iN o) M = some (bgM lw m p o, M') ∧ Fr 0 0 B M M' := by
  unfold f_Town_greetingFor
  rcases W with ⟨h1, h2, -⟩ | ⟨a, h1, h2, h3, -⟩
  · refine ⟨M, ?_, Fr.refl⟩
    have e : gN M 7 t 6 = some none := (S.n0 6).trans (congrArg some h1)
    rw [e, ob, if_neg (show ¬ (none : Option Nat).isSome = true from Bool.noConfusion), f_Town_greetingFor_21_eq S I R hp ho, if_pos rfl]
    unfold bgM
    rw [if_pos (h2 _)]
  · have e : gN M 7 t 6 = some (some a) := (S.n0 6).trans (congrArg some h1)
    have e2 : gR M 7 t 6 = some a := (gR_k (ci := 7) S.k0).trans h1
    obtain ⟨f, hf⟩ := f_Law_greetingFor_eq (N := N) S I R h3 (by omega) hp ho hN
    obtain ⟨c, n, en, cv, L, -⟩ := h3
    have F := Fr.opn (B := B) (f := f) h2 L
    refine ⟨mO M a f, ?_, F⟩
    rw [e, ob, if_pos (show (some a).isSome = true from rfl), e2, ob, L.c0, ob, hf, ob, f_Town_greetingFor_21_eq (F.shape S) I (F.tRel0 R ht) hp ho]
    rfl
end Fg
