section Tc
variable {N x o t B n p k w i s c d many : Nat} {ps ys zs : Nat → Nat} {M K L : Mem} {r q : Rho} {a b g u v S T A taken : Int32} {m m2 m0 : Nat → Int32} {ord gs : Nat → Nat} {z : Nat × (Nat → Nat)}
theorem GS.frS (G : GS N x o ps ys M r) (F : Fr (x + 132) 4 (x + 628) M K) : GS N x o ps ys K r := by
  obtain ⟨A, ⟨k1, k2, k3, k4⟩, T, g, ⟨p1, p2, p3⟩, f, ⟨i1, i2⟩, ⟨a1, a2, a3⟩⟩ := G
  have hx : m_iv K x = m_iv M x := F.2.1 x (by omega) (by omega)
  refine ⟨A.kr F.1.2.1 F.1.2.2.1 F.1.1, ⟨by rw [F.1.2.1]; exact k1, k2, by rw [F.1.1]; exact k3, fun b hb => by rw [F.1.2.1]; exact k4 b (by rw [← F.1.1]; exact hb)⟩, fun g hg => ?_, g.fr F (by omega) (by omega), ⟨?_, p2, fun k hk => ?_⟩, ?_, ⟨?_, i2.imp id fun w => ⟨w.1, w.2.fr F (by omega) (by omega)⟩⟩, ⟨?_, a2, fun k hk => ?_⟩⟩
  · rw [F.2.1 _ (by omega) (by omega)]; exact T g hg
  · rw [hx]; exact p1
  · rw [F.2.1 _ (by omega) (by omega)]; exact p3 k hk
  · rw [hx]; exact f
  · rw [hx]; exact i1
  · rw [hx]; exact a1
  · have hp := A.pl (i := k) (by have := (nb_c a2 (by decide)).2; omega)
    exact (a3 k hk).fr F (by omega) (by omega)
theorem GS.rvS (G : GS N x o ps ys M r) (v : Nat) : GS N x o ps ys (m_setR M (x + 132) 1 (some v)) r := by
  have hr : ∀ b, b ≠ x + 132 → m_rv (m_setR M (x + 132) 1 (some v)) b = m_rv M b := fun b hb => by
    funext j
    rw [rv_setR, if_neg (fun q => hb q.1)]
  have gt : ∀ {t : Nat} {m : Nat → Int32}, t ≠ x + 132 → GT N (x + 628) M t m → GT N (x + 628) (m_setR M (x + 132) 1 (some v)) t m := by
    intro t m ht h
    obtain ⟨h1, h2, lw, h3, h4⟩ := h
    refine ⟨h1, h2.frame fun b _ _ => rfl, lw, ?_, h4⟩
    rcases h3 with ⟨a1, a2⟩ | ⟨a, a1, a2, a3, a4⟩
    · exact Or.inl ⟨by rw [hr t ht]; exact a1, a2⟩
    · exact Or.inr ⟨a, by rw [hr t ht]; exact a1, a2, a3.cong (fun b _ _ => rfl) (hr a (by omega)) (fun b _ _ _ => rfl), a4⟩
  obtain ⟨A, k, T, g, p, f, ⟨i1, i2⟩, ⟨a1, a2, a3⟩⟩ := G
  have A2 := A
  refine ⟨?_, k, T, gt (by omega) g, p, f, ⟨i1, i2.imp id fun w => ⟨w.1, gt (by omega) w.2⟩⟩, ⟨a1, a2, fun k hk => ?_⟩⟩
  · unfold XSk at A ⊢
    obtain ⟨b1, b2, ⟨b3, b4, b5, b6⟩, b7, b8, b9, ⟨⟨c1, c2, c3, c4⟩, c5⟩, b11⟩ := A
    have sh : ∀ {t : Nat}, (t + 41 ≤ x + 132 ∨ x + 132 < t) → Shape M t → Shape (m_setR M (x + 132) 1 (some v)) t := fun ht S => S.of (fun b _ _ => rfl) (fun b j _ _ _ => by rw [hr b (by omega)])
    rw [hr x (by omega), hr (x + 84) (by omega), hr (x + 126) (by omega), rv_setR, rv_setR, rv_setR, if_neg (by omega), if_neg (by omega), if_neg (by omega)]
    exact ⟨b1, b2, ⟨sh (by omega) b3, sh (by omega) b4, sh (by omega) b5, fun i hi => sh (by omega) (b6 i hi)⟩, b7, b8, b9, ⟨⟨c1, c2, c3, c4⟩, c5⟩, b11⟩
  · have hp := A2.pl (i := k) (by have := (nb_c a2 (by decide)).2; omega)
    exact gt (by omega) (a3 k hk)
theorem XSk.ks (A : XSk M x ps ys) : (m_kd M (x + 132)).1 = 16 := by rw [A.2.2.2.2.2.2.1.1.1]
theorem XSk.si (A : XSk M x ps ys) (j : Nat) : gI M 6 (x + 132) j = some (m_iv M (x + 132) j) := gI_k (ci := 6) A.ks
theorem XSk.sp (A : XSk M x ps ys) (j : Nat) (v : Int32) : pI M 6 (x + 132) j v = some (m_setI M (x + 132) j v) := pI_k (ci := 6) A.ks
theorem XSk.sr (A : XSk M x ps ys) (j v : Nat) : pR M 6 (x + 132) j v = some (m_setR M (x + 132) j (some v)) := pR_k (ci := 6) A.ks
theorem XSk.sc (A : XSk M x ps ys) : ck M 6 (x + 132) = some () := ck_k (ci := 6) A.ks
theorem XSk.s2 (A : XSk M x ps ys) : gR M 6 (x + 132) 2 = some (x + 133) := (gR_k (ci := 6) A.ks).trans A.2.2.2.2.2.2.1.1.2.1
theorem XSk.s4 (A : XSk M x ps ys) : gR M 6 (x + 132) 4 = some (x + 134) := (gR_k (ci := 6) A.ks).trans A.2.2.2.2.2.2.1.1.2.2.1
theorem XSk.s5 (A : XSk M x ps ys) : gR M 6 (x + 132) 5 = some (x + 135) := (gR_k (ci := 6) A.ks).trans A.2.2.2.2.2.2.1.1.2.2.2
theorem XSk.sg (A : XSk M x ps ys) (hk : k < 8) : ald M (x + 133) (iN k) = some (m_iv M (x + 133) k) := ald_iN A.2.2.2.2.2.2.1.2.1 hk (by decide)
theorem XSk.sgs (A : XSk M x ps ys) (hk : k < 8) (v : Int32) : ast M (x + 133) (iN k) v = some (m_setI M (x + 133) k v) := ast_iN A.2.2.2.2.2.2.1.2.1 hk (by decide)
theorem XSk.so (A : XSk M x ps ys) (hk : k < 8) : ald M (x + 134) (iN k) = some (m_iv M (x + 134) k) := ald_iN A.2.2.2.2.2.2.1.2.2.1 hk (by decide)
theorem XSk.sos (A : XSk M x ps ys) (hk : k < 8) (v : Int32) : ast M (x + 134) (iN k) v = some (m_setI M (x + 134) k v) := ast_iN A.2.2.2.2.2.2.1.2.2.1 hk (by decide)
theorem XSk.sb (A : XSk M x ps ys) (hk : k < 8) : ald M (x + 135) (iN k) = some (m_iv M (x + 135) k) := ald_iN A.2.2.2.2.2.2.1.2.2.2 hk (by decide)
theorem Fr.cpyS {u n B : Nat} {a b l : Nat} (h1 : u ≤ b) (h2 : b < u + n) (h3 : u + n ≤ B) : Fr u n B M (m_cpy M a 0 b 0 l) :=
  ⟨⟨rfl, rfl, rfl, rfl⟩, fun e _ hn => cpy_ne fun q => hn ⟨by omega, by omega⟩, fun e lw he h => ⟨h.cong (fun _ _ _ => rfl) rfl fun f h4 h5 _ => cpy_ne fun q => by omega, by rw [cpy_ne (by omega)]⟩⟩
/-- the guests are numbered in their order -/
def idN (A : Int32) (p : Nat) : Nat := ctB (ib A) p
theorem idN_mono (A : Int32) {p : Nat} : ∀ j, idN A p ≤ idN A (p + j) := by
  intro j
  induction j with
  | zero => exact Nat.le_refl _
  | succ j ih =>
    refine Nat.le_trans ih ?_
    show ctB (ib A) (p + j) ≤ ctB (ib A) (p + j + 1)
    rw [ctB_s]
    exact Nat.le_add_right _ _
theorem idN_s (h : ib A p = true) : idN A (p + 1) = idN A p + 1 := by
  show ctB (ib A) (p + 1) = _
  rw [ctB_s, if_pos h]
  rfl
theorem idN_lt (h : ib A p = true) {s : Nat} (hs : p < s) : idN A p < idN A s := by
  have h1 := idN_mono A (p := p + 1) (s - (p + 1))
  rw [show p + 1 + (s - (p + 1)) = s by omega, idN_s h] at h1
  omega
theorem idN_inj {s : Nat} (h : ib A p = true) (k : ib A s = true) (e : idN A p = idN A s) : p = s := by
  rcases Nat.lt_trichotomy p s with h1 | h1 | h1
  · have := idN_lt h h1
    omega
  · exact h1
  · have := idN_lt k h1
    omega
theorem ctB_at (f : Nat → Bool) : ∀ (n i : Nat), i < ctB f n → ∃ p, p < n ∧ f p = true ∧ ctB f p = i := by
  intro n
  induction n with
  | zero => intro i h; exact absurd h (Nat.not_lt_zero _)
  | succ n ih =>
    intro i h
    rw [ctB_s] at h
    by_cases hf : f n = true
    · rw [if_pos hf] at h
      by_cases h2 : i < ctB f n
      · obtain ⟨p, h3, h4, h5⟩ := ih i h2
        exact ⟨p, by omega, h4, h5⟩
      · exact ⟨n, Nat.lt_succ_self n, hf, by omega⟩
    · rw [if_neg hf] at h
      obtain ⟨p, h3, h4, h5⟩ := ih i h
      exact ⟨p, by omega, h4, h5⟩
theorem bd_ctn (hn : n ≤ 32) (h : bdB n S) : ctB (ib S) 32 = ctB (ib S) n := by
  have e : ∀ k, ctB (ib S) (n + k) = ctB (ib S) n := by
    intro k
    induction k with
    | zero => rfl
    | succ k ih =>
      show ctB (ib S) (n + k + 1) = _
      rw [ctB_s, ih, h (n + k) (by omega), if_neg (by decide), Nat.add_zero]
  have h1 := e (32 - n)
  rw [show n + (32 - n) = 32 by omega] at h1
  exact h1
/-- who is left, by the numbers that are taken -/
def TS (A taken S : Int32) : Prop := ∀ p, p < 32 → ib S p = (ib A p && !ib taken (idN A p))
theorem TS.rm (h : TS A taken S) (hp : ib A p = true) (hc : ctB (ib A) 32 ≤ 32) : TS A (taken ||| ((1 : Int32) <<< (iN (idN A p) &&& 31))) (rmB S p) := fun s hs => by
  have hp32 := ib_lt hp
  have h1 : idN A p < 32 := by
    have := idN_lt hp hp32
    have h3 : idN A 32 = ctB (ib A) 32 := rfl
    omega
  rw [ib_rm S hp32 hs, h s hs, ib_or, ib_shl h1]
  by_cases h2 : s = p
  · rw [h2, decide_eq_true (rfl : p = p), decide_eq_true (rfl : idN A p = idN A p)]; simp
  · rw [decide_eq_false h2]
    by_cases h3 : ib A s = true
    · have h4 : idN A s ≠ idN A p := fun q => h2 (idN_inj h3 hp q)
      rw [decide_eq_false h4]; simp
    · rw [Bool.eq_false_iff.mpr h3]; simp
/-- the least so far, on the class's side -/
def zC (K : Mem) (x many : Nat) (z : Nat × (Nat → Nat)) : Prop := (z.1 = 1000000 ∧ m_iv K (x + 132) 0 = 1000000000) ∨ (z.1 < 1000000 ∧ m_iv K (x + 132) 0 = iN z.1 ∧ ∀ i, i < many → m_iv K (x + 135) i = iN (z.2 i))
theorem zC_lt (h : zC K x many z) (hc : c < 1000000) : iN c < m_iv K (x + 132) 0 ↔ c < z.1 := by
  rcases h with ⟨h1, h2⟩ | ⟨h1, h2, -⟩
  · rw [h1, h2]
    exact ⟨fun _ => hc, fun _ => iN_ylt (n := 1000000000) (by omega) (by decide)⟩
  · rw [h2]
    exact iN_lt (by omega) (by omega)
theorem seatNext_cl (G : GS N x o ps ys M r) (hT : m_rv M (x + 132) 1 = some (x + 2)) (hA : bdB (cn (r.2 1) 5) A) (hm : ctB (ib A) 32 = many) (hm8 : many ≤ 8) (hg : ∀ p, p < cn (r.2 1) 5 → ib A p = true → gs (idN A p) = p) (hN : 100 < N) : ∀ (d : Nat) (S taken : Int32) (k c : Nat) (ord : Nat → Nat) (z : Nat × (Nat → Nat)) (K : Mem), 1 ≤ k → ctB (ib S) 32 < d → ctB (ib S) 32 + k = many → TS A taken S → ib taken 0 = true → c + 400 * ctB (ib S) 32 + 400 < 1000000 → Fr (x + 132) 4 (x + 628) M K → m_iv K (x + 132) 3 = iN many → (∀ i, i < many → m_iv K (x + 133) i = iN (gs i)) → (∀ i, i < k → ord i < cn (r.2 1) 5 ∧ m_iv K (x + 134) i = iN (ord i)) → zC K x many z →
    ∃ L, f_Seating_seatNext N d (x + 132) (iN k) taken (iN c) K = some L ∧ Fr (x + 132) 4 (x + 628) M L ∧ m_iv L (x + 132) 3 = iN many ∧ (∀ i, i < many → m_iv L (x + 133) i = iN (gs i)) ∧ (∀ i, i < k → m_iv L (x + 134) i = iN (ord i)) ∧ zC L x many (tbF (r.2 1) many d S k c ord z) := by
  have h5 := G.I.b5
  have gT : ∀ {K : Mem}, Fr (x + 132) 4 (x + 628) M K → gR K 6 (x + 132) 1 = some (x + 2) := fun F => (gR_k (ci := 6) (G.frS F).A.ks).trans (by rw [F.1.2.2.1]; exact hT)
  have gA : ∀ i, i < many → ib A (gs i) = true ∧ idN A (gs i) = i ∧ gs i < cn (r.2 1) 5 := fun i hi => by
    rw [← hm, bd_ctn (by omega) hA] at hi
    obtain ⟨p, h1, h2, h3⟩ := ctB_at (ib A) _ i hi
    have h4 := hg p h1 h2
    have h3 : idN A p = i := h3
    rw [h3] at h4
    rw [h4]
    exact ⟨h2, h3, h1⟩
  intro d
  induction d with
  | zero => intro S taken k c ord z K _ h; exact absurd h (Nat.not_lt_zero _)
  | succ d ih =>
    intro S taken k c ord z K hk hd hmk hts ht0 hc F e3 eg ho hz
    have GK := G.frS F
    have SK : Shape K (x + 2) := GK.A.tn
    have hcs : c < 1000000 := by omega
    rw [f_Seating_seatNext, if_neg (show ¬ iN k < (1 : Int32) from iN_nlt (n := 1) hk (by omega)), GK.A.si, ob]
    by_cases hcz : c < z.1
    · rw [if_pos ((zC_lt hz hcs).mpr hcz), GK.A.si, ob, e3, tbF_s]
      by_cases h0 : S = 0
      · have hkm : k = many := by
          rw [h0] at hmk
          have : ctB (ib 0) 32 = 0 := by decide
          omega
        rw [if_neg (iN_nlt (by omega) (by omega)), if_pos h0, GK.A.sc, ob]
        have hcl := clN_le G.I many ord
        have e36 : ∀ y, y = iN (clN (r.2 1) many ord) → ∃ L, f_Seating_closeRing_36 (x + 132) (iN c) y K = some L ∧ Fr (x + 132) 4 (x + 628) M L ∧ m_iv L (x + 132) 3 = iN many ∧ (∀ i, i < many → m_iv L (x + 133) i = iN (gs i)) ∧ (∀ i, i < k → m_iv L (x + 134) i = iN (ord i)) ∧ zC L x many (if c + clN (r.2 1) many ord < z.1 then (c + clN (r.2 1) many ord, ord) else z) := fun y hy => by
          unfold f_Seating_closeRing_36
          rw [hy, iN_add, GK.A.si, ob]
          by_cases h1 : c + clN (r.2 1) many ord < z.1
          · have h2 := (zC_lt (c := c + clN (r.2 1) many ord) hz (by omega)).mpr h1
            have F2 : Fr (x + 132) 4 (x + 628) K (m_setI K (x + 132) 0 (iN (c + clN (r.2 1) many ord))) := Fr.setI (by omega) (by omega) (by omega)
            have A2 := (GK.frS F2).A
            have F3 : Fr (x + 132) 4 (x + 628) (m_setI K (x + 132) 0 (iN (c + clN (r.2 1) many ord))) (m_cpy (m_setI K (x + 132) 0 (iN (c + clN (r.2 1) many ord))) (x + 134) 0 (x + 135) 0 8) := Fr.cpyS (by omega) (by omega) (by omega)
            have cp : acp (m_setI K (x + 132) 0 (iN (c + clN (r.2 1) many ord))) (x + 134) 0 (x + 135) 0 8 = some (m_cpy (m_setI K (x + 132) 0 (iN (c + clN (r.2 1) many ord))) (x + 134) 0 (x + 135) 0 8) := acp_eq (z := 8) A2.2.2.2.2.2.2.1.2.2.1 A2.2.2.2.2.2.2.1.2.2.2 (by decide) rfl
            refine ⟨_, by rw [if_neg (i_nle.mpr h2), GK.A.sp, ob, A2.s4, ob, A2.s5, ob, cp, ob], F.trans (F2.trans F3), ?_, fun i hi => ?_, fun i hi => ?_, ?_⟩
            · rw [cpy_ne (by omega), iv_same, up1_ne (by decide)]; exact e3
            · rw [cpy_ne (by omega), iv_ne (by omega)]; exact eg i hi
            · rw [cpy_ne (by omega), iv_ne (by omega)]; exact (ho i hi).2
            · rw [if_pos h1]
              refine Or.inr ⟨by show c + clN (r.2 1) many ord < 1000000; omega, ?_, fun i hi => ?_⟩
              · rw [cpy_ne (by omega), iv_same, up1_same]
              · rw [cpy_at]
                show (if i < 8 then m_iv (m_setI K (x + 132) 0 (iN (c + clN (r.2 1) many ord))) (x + 134) i else _) = _
                rw [if_pos (by omega), iv_ne (by omega)]
                exact (ho i (by omega)).2
          · have h2 : ¬ iN (c + clN (r.2 1) many ord) < m_iv K (x + 132) 0 := fun w => h1 ((zC_lt (c := c + clN (r.2 1) many ord) hz (by omega)).mp w)
            refine ⟨K, by rw [if_pos (i_nlt.mp h2)], F, e3, eg, fun i hi => (ho i hi).2, ?_⟩
            rw [if_neg h1]
            exact hz
        unfold f_Seating_closeRing
        rw [GK.A.si, ob, e3]
        have fin : ∀ {t : Option Mem}, (∃ L, t = some L ∧ Fr (x + 132) 4 (x + 628) M L ∧ m_iv L (x + 132) 3 = iN many ∧ (∀ i, i < many → m_iv L (x + 133) i = iN (gs i)) ∧ (∀ i, i < k → m_iv L (x + 134) i = iN (ord i)) ∧ zC L x many (if c + clN (r.2 1) many ord < z.1 then (c + clN (r.2 1) many ord, ord) else z)) → ∃ L, (t.bind fun z3 => some z3) = some L ∧ Fr (x + 132) 4 (x + 628) M L ∧ m_iv L (x + 132) 3 = iN many ∧ (∀ i, i < many → m_iv L (x + 133) i = iN (gs i)) ∧ (∀ i, i < k → m_iv L (x + 134) i = iN (ord i)) ∧ zC L x many (if c + clN (r.2 1) many ord < z.1 then (c + clN (r.2 1) many ord, ord) else z) := fun h => by
          obtain ⟨L, h1, h2⟩ := h
          exact ⟨L, by rw [h1, ob], h2⟩
        by_cases hm2 : many ≤ 2
        · rw [if_pos (show iN many ≤ (2 : Int32) from iN_yle (n := many) (k := 2) hm2 (by decide))]
          exact fin (e36 0 (by unfold clN; rw [if_pos hm2]; rfl))
        · rw [if_neg (show ¬ iN many ≤ (2 : Int32) from iN_nle (n := many) (k := 2) (by omega) (by omega)), gT F, ob, GK.A.s4, ob, ob, show iN many - 1 = iN (many - 1) from iN_sub (b := 1) (by omega), GK.A.so (by omega), ob, ob, (ho (many - 1) (by omega)).2, show ald K (x + 134) 0 = some (m_iv K (x + 134) 0) from GK.A.so (k := 0) (by decide), ob, (ho 0 (by omega)).2, SK.c0, ob, f_Town_costOfOwns_eq SK GK.I GK.R (ho (many - 1) (by omega)).1 (ho 0 (by omega)).1, ob]
          refine fin (e36 _ ?_)
          unfold clN
          rw [if_neg hm2]
          exact coM_N G.I (ho (many - 1) (by omega)).1 (ho 0 (by omega)).1
      · have hcp : 0 < ctB (ib S) 32 := Nat.pos_of_ne_zero fun h => h0 (ct_0 h)
        rw [if_pos (iN_ylt (by omega) (by omega)), if_neg h0]
        have nxt : ∀ j, j < many → (∀ s, gs j < s → s < (if j + 1 < many then gs (j + 1) else cn (r.2 1) 5) → ib A s = false) ∧ gs j < (if j + 1 < many then gs (j + 1) else cn (r.2 1) 5) ∧ (if j + 1 < many then gs (j + 1) else cn (r.2 1) 5) ≤ cn (r.2 1) 5 := fun j hj => by
          obtain ⟨g1, g2, g3⟩ := gA j hj
          refine ⟨fun s h1 h2 => Bool.eq_false_iff.mpr fun h3 => ?_, ?_, ?_⟩
          · have h4 := idN_lt g1 h1
            by_cases h6 : j + 1 < many
            · rw [if_pos h6] at h2
              have h7 := idN_lt h3 h2
              have := (gA (j + 1) h6).2.1
              omega
            · rw [if_neg h6] at h2
              have h7 := idN_lt h3 (ib_lt h3)
              have h8 : idN A 32 = many := hm
              omega
          · by_cases h6 : j + 1 < many
            · rw [if_pos h6]
              obtain ⟨f1, f2, f3⟩ := gA (j + 1) h6
              refine Nat.lt_of_not_le fun h7 => ?_
              rcases Nat.lt_or_eq_of_le h7 with h8 | h8
              · have := idN_lt f1 h8
                omega
              · rw [← h8] at g2
                omega
            · rw [if_neg h6]; exact g3
          · by_cases h6 : j + 1 < many
            · rw [if_pos h6]
              exact Nat.le_of_lt (gA (j + 1) h6).2.2
            · rw [if_neg h6]; exact Nat.le_refl _
        have notS : ∀ s, ib A s = false → ∀ y : Nat × (Nat → Nat), tbS (r.2 1) many d S k c ord s y = y := fun s hs y => by
          unfold tbS
          rw [if_neg]
          intro h
          rw [hts s (ib_lt h), hs] at h
          simp at h
        refine lp_inv (F := fun fuel j (w : Mem) => f_Seating_seatNext_31 N (f_Seating_seatNext N d) (x + 132) (iN k) taken (iN c) fuel (iN j) w) (n := many) (P := fun j w => Fr (x + 132) 4 (x + 628) M w ∧ m_iv w (x + 132) 3 = iN many ∧ (∀ i, i < many → m_iv w (x + 133) i = iN (gs i)) ∧ (∀ i, i < k → m_iv w (x + 134) i = iN (ord i)) ∧ zC w x many (lp (tbS (r.2 1) many d S k c ord) (if j < many then gs j else cn (r.2 1) 5) 0 z)) (Q := fun t => ∃ L, t = some L ∧ Fr (x + 132) 4 (x + 628) M L ∧ m_iv L (x + 132) 3 = iN many ∧ (∀ i, i < many → m_iv L (x + 133) i = iN (gs i)) ∧ (∀ i, i < k → m_iv L (x + 134) i = iN (ord i)) ∧ zC L x many (lp (tbS (r.2 1) many d S k c ord) (cn (r.2 1) 5) 0 z)) (fun fuel w hw => ?_) (fun fuel j w hj hw => ?_) (many - 1) 1 K N (by omega) (by omega) ⟨F, e3, eg, fun i hi => (ho i hi).2, ?_⟩
        · obtain ⟨w1, w2, w3, w4, w5⟩ := hw
          rw [if_neg (Nat.lt_irrefl _)] at w5
          refine ⟨w, ?_, w1, w2, w3, w4, w5⟩
          rw [f_Seating_seatNext_31, (G.frS w1).A.si, ob, w2, if_pos (i_le_rfl _)]
        · obtain ⟨w1, w2, w3, w4, w5⟩ := hw
          obtain ⟨n1, n2, n3⟩ := nxt j hj
          obtain ⟨g1, g2, g3⟩ := gA j hj
          have Gw := G.frS w1
          rw [if_pos hj] at w5
          have e1 : lp (tbS (r.2 1) many d S k c ord) (if j + 1 < many then gs (j + 1) else cn (r.2 1) 5) 0 z = tbS (r.2 1) many d S k c ord (gs j) (lp (tbS (r.2 1) many d S k c ord) (gs j) 0 z) := by
            have h6 := lp_split (tbS (r.2 1) many d S k c ord) ((if j + 1 < many then gs (j + 1) else cn (r.2 1) 5) - (gs j + 1)) (gs j + 1) 0 z
            rw [show gs j + 1 + ((if j + 1 < many then gs (j + 1) else cn (r.2 1) 5) - (gs j + 1)) = (if j + 1 < many then gs (j + 1) else cn (r.2 1) 5) by omega, lp_snoc, Nat.zero_add, Nat.zero_add] at h6
            rw [h6]
            exact lp_idle _ _ _ fun i h7 h8 => notS i (n1 i (by omega) (by omega)) _
          rw [e1]
          generalize lp (tbS (r.2 1) many d S k c ord) (gs j) 0 z = y at *
          have hsS : ib S (gs j) = !ib taken j := by rw [hts _ (ib_lt g1), g1, g2, Bool.true_and]
          unfold tbS
          cases hta : ib taken j with
          | true =>
            rw [hta] at hsS
            rw [if_neg (by rw [hsS]; decide)]
            refine ⟨w, ?_, w1, w2, w3, w4, w5⟩
            rw [f_Seating_seatNext_31, Gw.A.si, ob, w2, if_neg (iN_nle hj (by omega)), f_CT_isIn_eq (show j < 32 by omega), ob, hta, if_neg (show ¬ b01 true = 0 by decide), iN_s]
          | false =>
            rw [hta] at hsS
            have hsp : ib S (gs j) = true := hsS
            rw [if_pos hsp]
            have hcr := ct_rm (ib_lt hsp) hsp
            have hco := coN_le G.I (ord (k - 1)) (gs j)
            have F2 : Fr (x + 132) 4 (x + 628) M (m_setI w (x + 134) k (iN (gs j))) := w1.trans (Fr.setI (by omega) (by omega) (by omega))
            have G2 := G.frS F2
            obtain ⟨L, c1, l1, l2, l3, l4, l5⟩ := ih (rmB S (gs j)) (taken ||| ((1 : Int32) <<< (iN j &&& 31))) (k + 1) (c + coN (r.2 1) (ord (k - 1)) (gs j)) (up1 ord k (gs j)) y (m_setI w (x + 134) k (iN (gs j))) (by omega) (by omega) (by omega) (by have := hts.rm g1 (by omega); rw [g2] at this; exact this) (by rw [ib_or, ht0]; rfl) (by omega) F2 (by rw [iv_ne (by omega)]; exact w2) (fun i hi => by rw [iv_ne (by omega)]; exact w3 i hi) (fun i hi => by
              rw [iv_same, up1_at, up1_at]
              by_cases hik : i = k
              · rw [if_pos hik, if_pos hik]; exact ⟨g3, rfl⟩
              · rw [if_neg hik, if_neg hik]; exact ⟨(ho i (by omega)).1, w4 i (by omega)⟩) (by
              unfold zC at w5 ⊢
              rw [iv_ne (by omega), iv_ne (by omega)]
              exact w5)
            refine ⟨L, ?_, l1, l2, l3, fun i hi => ?_, l5⟩
            · rw [f_Seating_seatNext_31, Gw.A.si, ob, w2, if_neg (iN_nle hj (by omega)), f_CT_isIn_eq (show j < 32 by omega), ob, hta, if_pos (show b01 false = 0 from rfl), Gw.A.s4, ob, Gw.A.s2, ob, Gw.A.sg (by omega), ob, w3 j hj, Gw.A.sos (by omega), ob, gT F2, ob, G2.A.s4, ob, show iN k - 1 = iN (k - 1) from iN_sub (b := 1) (by omega), G2.A.so (by omega), ob, iv_same, up1_ne (show k - 1 ≠ k by omega), w4 (k - 1) (by omega), G2.A.s2, ob, G2.A.sg (by omega), ob, iv_ne (by omega), w3 j hj, G2.A.tn.c0, ob, f_Town_costOfOwns_eq G2.A.tn G2.I G2.R (ho (k - 1) (by omega)).1 g3, ob, coM_N G.I (ho (k - 1) (by omega)).1 g3, iN_add, iN_s, c1, ob, iN_s]
            · have := l4 i (by omega)
              rw [up1_at, if_neg (by omega)] at this
              exact this
        · have e1 : lp (tbS (r.2 1) many d S k c ord) (if 1 < many then gs 1 else cn (r.2 1) 5) 0 z = z := by
            refine lp_idle _ _ _ fun i _ h7 => ?_
            by_cases h8 : ib A i = true
            · have h9 : idN A i = 0 := by
                by_cases h6 : 1 < many
                · rw [if_pos h6] at h7
                  have := idN_lt h8 (show i < gs 1 by omega)
                  have := (gA 1 h6).2.1
                  omega
                · have := idN_lt h8 (ib_lt h8)
                  have h8 : idN A 32 = many := hm
                  omega
              unfold tbS
              rw [if_neg]
              intro h
              rw [hts i (ib_lt h), h9, ht0] at h
              simp at h
            · exact notS i (Bool.eq_false_iff.mpr h8) _
          rw [e1]
          exact hz
    · have h1 : ¬ iN c < m_iv K (x + 132) 0 := fun w => hcz ((zC_lt hz hcs).mp w)
      rw [if_neg h1, tbF_cut _ _ _ _ _ _ _ _ (by omega)]
      exact ⟨K, rfl, F, e3, eg, fun i hi => (ho i hi).2, hz⟩
end Tc
