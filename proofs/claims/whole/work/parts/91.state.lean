/-! the whole state: the class's objects from x on, and the model's -/
/-- the kinds and references; past towns by ps; the owns of the years by ys -/
def XSk (M : Mem) (x : Nat) (ps ys : Nat → Nat) : Prop :=
  (m_kd M x = (20, 0) ∧ m_rv M x 0 = some (x + 1) ∧ m_rv M x 3 = some (x + 2) ∧ m_rv M x 4 = some (x + 43) ∧ m_rv M x 6 = some (x + 84) ∧ m_rv M x 8 = some (x + 85) ∧ m_rv M x 9 = some (x + 126) ∧ m_rv M x 10 = some (x + 132)) ∧
  (m_kd M (x + 1) = (1, 400) ∧ m_kd M (x + 84) = (3, 12)) ∧ (Shape M (x + 2) ∧ Shape M (x + 43) ∧ Shape M (x + 85) ∧ ∀ i, i < 12 → Shape M (x + 136 + 41 * i)) ∧
  (∀ i, i < 12 → ps i < 12 ∧ m_rv M (x + 84) i = some (x + 136 + 41 * ps i)) ∧ (∀ i j, i < 12 → j < 12 → ps i = ps j → i = j) ∧
  ((m_kd M (x + 126) = (19, 0) ∧ m_rv M (x + 126) 1 = some (x + 127) ∧ m_rv M (x + 126) 2 = some (x + 128 + ys 0) ∧ m_rv M (x + 126) 3 = some (x + 128 + ys 1) ∧ m_rv M (x + 126) 4 = some (x + 128 + ys 2) ∧ m_rv M (x + 126) 5 = some (x + 131)) ∧
    (m_kd M (x + 127) = (1, 10) ∧ m_kd M (x + 128) = (1, 10) ∧ m_kd M (x + 129) = (1, 10) ∧ m_kd M (x + 130) = (1, 10) ∧ m_kd M (x + 131) = (1, 32)) ∧ (ys 0 < 3 ∧ ys 1 < 3 ∧ ys 2 < 3 ∧ ys 0 ≠ ys 1 ∧ ys 0 ≠ ys 2 ∧ ys 1 ≠ ys 2)) ∧
  ((m_kd M (x + 132) = (16, 0) ∧ m_rv M (x + 132) 2 = some (x + 133) ∧ m_rv M (x + 132) 4 = some (x + 134) ∧ m_rv M (x + 132) 5 = some (x + 135)) ∧ m_kd M (x + 133) = (1, 8) ∧ m_kd M (x + 134) = (1, 8) ∧ m_kd M (x + 135) = (1, 8)) ∧ x + 628 ≤ m_sz M
/-- a town and a row of the model that say the same -/
def GT (N B : Nat) (M : Mem) (t : Nat) (m : Nat → Int32) : Prop := Inv m ∧ TRel M t m ∧ ∃ lw, WRel M t B lw (m 1) ∧ RdOK N m lw
/-- an act's row of the model, with the text of the law as it is -/
def acM (r : Rho) (k : Nat) : Nat → Int32 := fun j => if j < 900 then r.2 5 (900 * k + j) else r.2 1 j
/-- the tape -/
def GP (M : Mem) (x : Nat) (r : Rho) : Prop := m_iv M x 1 = r.1 8 ∧ nb (r.1 8) 400 ∧ ∀ k, k < 400 → m_iv M (x + 1) k = r.2 7 k
/-- the image -/
def GI (N : Nat) (M : Mem) (x : Nat) (r : Rho) : Prop := m_iv M x 5 = r.1 3 ∧ (r.1 3 = 0 ∨ (r.1 3 = 1 ∧ GT N (x + 628) M (x + 43) (r.2 2)))
/-- the acts -/
def GA (N : Nat) (M : Mem) (x : Nat) (ps : Nat → Nat) (r : Rho) : Prop := m_iv M x 7 = r.1 6 ∧ nb (r.1 6) 12 ∧ ∀ k, k < (r.1 6).toNatClampNeg → GT N (x + 628) M (x + 136 + 41 * ps k) (acM r k)
def GS (N x o : Nat) (ps ys : Nat → Nat) (M : Mem) (r : Rho) : Prop :=
  XSk M x ps ys ∧ (m_kd M o = (4, 1) ∧ x + 628 ≤ o ∧ o < m_sz M ∧ ∀ b, m_sz M ≤ b → (m_kd M b).1 = 0) ∧ (∀ g, g < 32 → m_iv M (x + 131) g = 0) ∧ GT N (x + 628) M (x + 2) (r.2 1) ∧ GP M x r ∧ (m_iv M x 2 = r.1 12 ∧ Bz r) ∧ GI N M x r ∧ GA N M x ps r
section Gs
variable {N B x o t u n : Nat} {ps ys : Nat → Nat} {M K : Mem} {r q : Rho} {m : Nat → Int32}
theorem GT.fr (h : GT N B M t m) (F : Fr u n B M K) (ht : t + 41 ≤ B) (hd : t + 41 ≤ u ∨ u + n ≤ t) : GT N B K t m := by
  obtain ⟨h1, h2, lw, h3, h4⟩ := h
  exact ⟨h1, F.tRel h2 ht hd, lw, F.wRel h3, h4⟩
/-- more cells, what was there as it was -/
def Ext (M K : Mem) : Prop := m_sz M ≤ m_sz K ∧ ∀ b, b < m_sz M → m_kd K b = m_kd M b ∧ m_rv K b = m_rv M b ∧ m_iv K b = m_iv M b
theorem Ext.refl : Ext M M := ⟨Nat.le_refl _, fun _ _ => ⟨rfl, rfl, rfl⟩⟩
theorem Ext.shape (h : Ext M K) (S : Shape M t) (ht : t + 41 ≤ m_sz M) : Shape K t := S.of (fun b _ h2 => (h.2 b (by omega)).1) (fun b j _ h2 _ => by rw [(h.2 b (by omega)).2.1])
theorem Ext.lawC {a : Nat} {lw : (Nat → Int32) → Int32} (h : Ext M K) (hk : ∀ b, m_sz M ≤ b → (m_kd M b).1 = 0) (L : LawC M a lw) : LawC K a lw ∧ m_iv K a 0 = m_iv M a 0 := by
  have ha : a + 6 ≤ m_sz M := by
    obtain ⟨c, n, en, cv, ⟨⟨l1, -⟩, ⟨k1, k2, k3, k4, k5⟩, -⟩, -⟩ := L
    refine Nat.not_lt.mp fun hlt => ?_
    have := hk (a + 5) (by omega)
    rw [k5] at this
    cases this
  exact ⟨L.cong (fun b h1 h2 => (h.2 b (by omega)).1) (h.2 a (by omega)).2.1 fun b h1 h2 _ => (h.2 b (by omega)).2.2, by rw [(h.2 a (by omega)).2.2]⟩
theorem Ext.gt (h : Ext M K) (hk : ∀ b, m_sz M ≤ b → (m_kd M b).1 = 0) (ht : t + 41 ≤ m_sz M) (G : GT N B M t m) : GT N B K t m := by
  obtain ⟨h1, h2, lw, h3, h4⟩ := G
  refine ⟨h1, h2.frame fun b g1 g2 => (h.2 b (by omega)).2.2, lw, ?_, h4⟩
  rcases h3 with ⟨a1, a2⟩ | ⟨a, a1, a2, a3, a4⟩
  · exact Or.inl ⟨by rw [(h.2 t (by omega)).2.1]; exact a1, a2⟩
  · exact Or.inr ⟨a, by rw [(h.2 t (by omega)).2.1]; exact a1, a2, (h.lawC hk a3).1, (h.lawC hk a3).2.trans a4⟩
theorem XSk.tn (A : XSk M x ps ys) : Shape M (x + 2) := A.2.2.1.1
theorem XSk.tk (A : XSk M x ps ys) : Shape M (x + 43) := A.2.2.1.2.1
theorem XSk.td (A : XSk M x ps ys) : Shape M (x + 85) := A.2.2.1.2.2.1
theorem XSk.tp (A : XSk M x ps ys) {i : Nat} (hi : i < 12) : Shape M (x + 136 + 41 * i) := A.2.2.1.2.2.2 i hi
theorem XSk.kx (A : XSk M x ps ys) : (m_kd M x).1 = 20 := by rw [A.1.1]
theorem XSk.sz (A : XSk M x ps ys) : x + 628 ≤ m_sz M := A.2.2.2.2.2.2.2
theorem XSk.i (A : XSk M x ps ys) (j : Nat) : gI M 10 x j = some (m_iv M x j) := gI_k (ci := 10) A.kx
theorem XSk.p (A : XSk M x ps ys) (j : Nat) (v : Int32) : pI M 10 x j v = some (m_setI M x j v) := pI_k (ci := 10) A.kx
theorem XSk.z (A : XSk M x ps ys) (j : Nat) {v : Int32} (hv : v = 0 ∨ v = 1) : pZ M 10 x j v = some (m_setI M x j v) := if_pos ⟨A.kx, hv⟩
theorem XSk.c (A : XSk M x ps ys) : ck M 10 x = some () := ck_k (ci := 10) A.kx
theorem XSk.gT (A : XSk M x ps ys) : gR M 10 x 0 = some (x + 1) := (gR_k (ci := 10) A.kx).trans A.1.2.1
theorem XSk.gN (A : XSk M x ps ys) : gR M 10 x 3 = some (x + 2) := (gR_k (ci := 10) A.kx).trans A.1.2.2.1
theorem XSk.gK (A : XSk M x ps ys) : gR M 10 x 4 = some (x + 43) := (gR_k (ci := 10) A.kx).trans A.1.2.2.2.1
theorem XSk.gP (A : XSk M x ps ys) : gR M 10 x 6 = some (x + 84) := (gR_k (ci := 10) A.kx).trans A.1.2.2.2.2.1
theorem XSk.gD (A : XSk M x ps ys) : gR M 10 x 8 = some (x + 85) := (gR_k (ci := 10) A.kx).trans A.1.2.2.2.2.2.1
theorem XSk.gY (A : XSk M x ps ys) : gR M 10 x 9 = some (x + 126) := (gR_k (ci := 10) A.kx).trans A.1.2.2.2.2.2.2.1
theorem XSk.gS (A : XSk M x ps ys) : gR M 10 x 10 = some (x + 132) := (gR_k (ci := 10) A.kx).trans A.1.2.2.2.2.2.2.2
theorem XSk.aT (A : XSk M x ps ys) {k : Nat} (hk : k < 400) : ald M (x + 1) (iN k) = some (m_iv M (x + 1) k) := ald_iN A.2.1.1 hk (by decide)
theorem XSk.sT (A : XSk M x ps ys) {k : Nat} (hk : k < 400) (v : Int32) : ast M (x + 1) (iN k) v = some (m_setI M (x + 1) k v) := ast_iN A.2.1.1 hk (by decide)
theorem XSk.pa (A : XSk M x ps ys) {i : Nat} (hi : i < 12) : ard M 3 (x + 84) (iN i) = some (x + 136 + 41 * ps i) := (ard_iN A.2.1.2 hi (by decide)).trans (A.2.2.2.1 i hi).2
theorem XSk.pl (A : XSk M x ps ys) {i : Nat} (hi : i < 12) : ps i < 12 := (A.2.2.2.1 i hi).1
theorem XSk.kr (A : XSk M x ps ys) (hk : m_kd K = m_kd M) (hr : m_rv K = m_rv M) (hs : m_sz K = m_sz M) : XSk K x ps ys := by
  unfold XSk at A ⊢
  obtain ⟨a1, a2, ⟨a3, a4, a5, a6⟩, a7, a8, a9, a10, a11⟩ := A
  have sh : ∀ {t : Nat}, Shape M t → Shape K t := fun S => S.of (fun b _ _ => by rw [hk]) (fun b j _ _ _ => by rw [hr])
  rw [hk, hr, hs]
  exact ⟨a1, a2, ⟨sh a3, sh a4, sh a5, fun i hi => sh (a6 i hi)⟩, a7, a8, a9, a10, a11⟩
theorem XSk.ext (A : XSk M x ps ys) (h : Ext M K) : XSk K x ps ys := by
  have hz := A.sz
  unfold XSk at A ⊢
  obtain ⟨a1, a2, ⟨a3, a4, a5, a6⟩, a7, a8, ⟨⟨b1, b2, b3, b4, b5, b6⟩, ⟨c1, c2, c3, c4, c5⟩, d⟩, ⟨⟨e1, e2, e3, e4⟩, f1, f2, f3⟩, a11⟩ := A
  have hk : ∀ b, b < x + 628 → m_kd K b = m_kd M b := fun b hb => (h.2 b (by omega)).1
  have hr : ∀ b, b < x + 628 → m_rv K b = m_rv M b := fun b hb => (h.2 b (by omega)).2.1
  rw [hk x (by omega), hr x (by omega), hk (x + 1) (by omega), hk (x + 84) (by omega), hr (x + 84) (by omega), hk (x + 126) (by omega), hr (x + 126) (by omega), hk (x + 127) (by omega), hk (x + 128) (by omega), hk (x + 129) (by omega), hk (x + 130) (by omega), hk (x + 131) (by omega), hk (x + 132) (by omega), hr (x + 132) (by omega), hk (x + 133) (by omega), hk (x + 134) (by omega), hk (x + 135) (by omega)]
  exact ⟨a1, a2, ⟨h.shape a3 (by omega), h.shape a4 (by omega), h.shape a5 (by omega), fun i hi => h.shape (a6 i hi) (by omega)⟩, a7, a8, ⟨⟨b1, b2, b3, b4, b5, b6⟩, ⟨c1, c2, c3, c4, c5⟩, d⟩, ⟨⟨e1, e2, e3, e4⟩, f1, f2, f3⟩, Nat.le_trans a11 h.1⟩
/-- .. more cells of no kind -/
theorem GS.ext (G : GS N x o ps ys M r) (h : Ext M K) (hk : ∀ b, m_sz K ≤ b → (m_kd K b).1 = 0) : GS N x o ps ys K r := by
  obtain ⟨A, ⟨k1, k2, k3, k4⟩, T, g, ⟨p1, p2, p3⟩, f, ⟨i1, i2⟩, ⟨a1, a2, a3⟩⟩ := G
  have hz := A.sz
  refine ⟨A.ext h, ⟨by rw [(h.2 o k3).1]; exact k1, k2, Nat.lt_of_lt_of_le k3 h.1, hk⟩, by rw [(h.2 (x + 131) (by omega)).2.2]; exact T, h.gt k4 (by omega) g, ⟨by rw [(h.2 x (by omega)).2.2]; exact p1, p2, by rw [(h.2 (x + 1) (by omega)).2.2]; exact p3⟩, by rw [(h.2 x (by omega)).2.2]; exact f, ⟨by rw [(h.2 x (by omega)).2.2]; exact i1, i2.imp id fun q => ⟨q.1, h.gt k4 (by omega) q.2⟩⟩, ⟨by rw [(h.2 x (by omega)).2.2]; exact a1, a2, fun k hk2 => ?_⟩⟩
  have hp := A.pl (i := k) (by have := (nb_c a2 (by decide)).2; omega)
  exact h.gt k4 (by omega) (a3 k hk2)
theorem GS.new (G : GS N x o ps ys M r) : GS N x o ps ys (m_new M (0, 0)) r := by
  have hk := G.2.1.2.2.2
  refine G.ext ⟨Nat.le_succ _, fun b hb => ⟨if_neg (by omega), if_neg (by omega), if_neg (by omega)⟩⟩ fun b hb => ?_
  have hb2 : m_sz M + 1 ≤ b := hb
  show (if b = m_sz M then ((0, 0) : Nat × Nat) else m_kd M b).1 = 0
  rw [if_neg (by omega)]
  exact hk b (by omega)
theorem GS.setL (G : GS N x o ps ys M r) (j : Nat) (v : Int64) : GS N x o ps ys (m_setL M o j v) r := G.ext ⟨Nat.le_refl _, fun b hb => ⟨rfl, rfl, rfl⟩⟩ G.2.1.2.2.2
/-- the model's state that matters -/
def S0 (r q : Rho) : Prop := (q.2 1 = r.2 1 ∧ q.2 2 = r.2 2 ∧ q.2 5 = r.2 5 ∧ q.2 7 = r.2 7) ∧ q.1 3 = r.1 3 ∧ q.1 6 = r.1 6 ∧ q.1 8 = r.1 8 ∧ q.1 12 = r.1 12 ∧ (Bz r → Bz q)
theorem Sr.s0 (h : Sr r q) : S0 r q := ⟨⟨h.1.1.1, h.1.1.2.1, h.1.1.2.2.2.1, h.1.1.2.2.2.2⟩, h.1.2.2.1, h.1.2.2.2.1, h.1.2.2.2.2.1, h.2, h.1.2.2.2.2.2⟩
theorem S0.thr (r : Rho) (v : Int32) : S0 r (r_set r 0 v) := ⟨⟨rfl, rfl, rfl, rfl⟩, rfl, rfl, rfl, rfl, id⟩
theorem S0.trans {s : Rho} (h : S0 r q) (k : S0 q s) : S0 r s := ⟨⟨k.1.1.trans h.1.1, k.1.2.1.trans h.1.2.1, k.1.2.2.1.trans h.1.2.2.1, k.1.2.2.2.trans h.1.2.2.2⟩, k.2.1.trans h.2.1, k.2.2.1.trans h.2.2.1, k.2.2.2.1.trans h.2.2.2.1, k.2.2.2.2.1.trans h.2.2.2.2.1, fun z => k.2.2.2.2.2 (h.2.2.2.2.2 z)⟩
theorem S0.ac (h : S0 r q) (k : Nat) : acM q k = acM r k := by
  unfold acM
  rw [h.1.1, h.1.2.2.1]
theorem GS.s0 (G : GS N x o ps ys M r) (h : S0 r q) : GS N x o ps ys M q := by
  obtain ⟨A, k, T, g, p, f, i, a⟩ := G
  obtain ⟨⟨e1, e2, e5, e7⟩, e3, e6, e8, e12⟩ := id h
  refine ⟨A, k, T, by rw [e1]; exact g, ?_, ⟨by rw [e12.1]; exact f.1, e12.2 f.2⟩, ?_, ?_⟩
  · unfold GP at p ⊢
    rw [e8, e7]; exact p
  · unfold GI at i ⊢
    rw [e3, e2]; exact i
  · unfold GA at a ⊢
    rw [e6]
    exact ⟨a.1, a.2.1, fun k hk => by rw [h.ac]; exact a.2.2 k hk⟩
section Gq
variable (G : GS N x o ps ys M r)
theorem GS.A (G : GS N x o ps ys M r) : XSk M x ps ys := G.1
theorem GS.nw (G : GS N x o ps ys M r) : GT N (x + 628) M (x + 2) (r.2 1) := G.2.2.2.1
theorem GS.I (G : GS N x o ps ys M r) : Inv (r.2 1) := G.2.2.2.1.1
theorem GS.R (G : GS N x o ps ys M r) : TRel M (x + 2) (r.2 1) := G.2.2.2.1.2.1
theorem GS.S (G : GS N x o ps ys M r) : Shape M (x + 2) := G.1.tn
end Gq
end Gs
/-! an answer, or an exception, on both sides -/
section An
variable {N x o : Nat} {ps ys : Nat → Nat} {M K : Mem} {r q : Rho}
theorem lst_o (G : GS N x o ps ys M r) (v : Int64) : lst M o 0 v = some (m_setL M o 0 v) := by
  unfold lst
  rw [G.2.1.1]
  exact if_pos ⟨rfl, by decide⟩
theorem lld_o (G : GS N x o ps ys M r) (v : Int64) : lld (m_setL M o 0 v) o 0 = some v := by
  unfold lld
  have h : m_kd (m_setL M o 0 v) o = (4, 1) := G.2.1.1
  rw [h, if_pos ⟨rfl, by decide⟩]
  exact congrArg some (if_pos ⟨rfl, rfl⟩)
theorem lg_same (v : Int64) : lg_cmp v v = 0 := by
  unfold lg_cmp
  have h : ¬ v > v := fun h => Int64.lt_irrefl h
  rw [if_neg h, if_pos rfl]
/-- how a law's case ends: the same thrown, or the same answer -/
noncomputable def fin3 (o : Nat) (z3 : Int32 × Mem) (z6 : Int32 × Rho) (kk : Mem → Rho → Option (Mem × Rho)) : Option (Mem × Rho) :=
  (f_R_thrown z6.2).bind fun z7 => if z7 = z3.1 then (if z3.1 = 0 then ((lld z3.2 o 0).bind fun v8 => if (lg_cmp v8 (Int32.toInt64 z6.1)) = 0 then (kk z3.2 z6.2) else (none)) else (kk z3.2 z6.2)) else (none)
theorem fin3_ok (G : GS N x o ps ys M r) {v : Int32} (ht : q.1 0 = 0) (kk : Mem → Rho → Option (Mem × Rho)) : fin3 o (0, m_setL M o 0 (Int32.toInt64 v)) (v, q) kk = kk (m_setL M o 0 (Int32.toInt64 v)) q := by
  unfold fin3 f_R_thrown
  dsimp only
  rw [ht, ob, if_pos rfl, if_pos rfl, lld_o G, ob, lg_same, if_pos rfl]
theorem fin3_ex {c v : Int32} (hc : c ≠ 0) (ht : q.1 0 = c) (kk : Mem → Rho → Option (Mem × Rho)) : fin3 o (c, M) (v, q) kk = kk M q := by
  unfold fin3 f_R_thrown
  dsimp only
  rw [ht, ob, if_pos rfl, if_neg hc]
end An
