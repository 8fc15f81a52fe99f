section Yc
variable {N x o t B n p k : Nat} {ps ys zs : Nat → Nat} {M K L : Mem} {r q : Rho} {fr ow pr : Nat → Int32} {a g : Int32} {m : Nat → Int32}
theorem GS.frY (G : GS N x o ps ys M r) (F : Fr (x + 126) 6 (x + 628) M K) (T2 : ∀ g, g < 32 → m_iv K (x + 131) g = 0) : GS N x o ps ys K r := by
  obtain ⟨A, ⟨k1, k2, k3, k4⟩, T, g, ⟨p1, p2, p3⟩, f, ⟨i1, i2⟩, ⟨a1, a2, a3⟩⟩ := G
  have hx : m_iv K x = m_iv M x := F.2.1 x (by omega) (by omega)
  refine ⟨A.kr F.1.2.1 F.1.2.2.1 F.1.1, ⟨by rw [F.1.2.1]; exact k1, k2, by rw [F.1.1]; exact k3, fun b hb => by rw [F.1.2.1]; exact k4 b (by rw [← F.1.1]; exact hb)⟩, T2, g.fr F (by omega) (by omega), ⟨?_, p2, fun k hk => ?_⟩, ?_, ⟨?_, i2.imp id fun w => ⟨w.1, w.2.fr F (by omega) (by omega)⟩⟩, ⟨?_, a2, fun k hk => ?_⟩⟩
  · rw [hx]; exact p1
  · rw [F.2.1 _ (by omega) (by omega)]; exact p3 k hk
  · rw [hx]; exact f
  · rw [hx]; exact i1
  · rw [hx]; exact a1
  · have hp := A.pl (i := k) (by have := (nb_c a2 (by decide)).2; omega)
    exact (a3 k hk).fr F (by omega) (by omega)
theorem GS.rvY (G : GS N x o ps ys M r) (hz : m_sz K = m_sz M) (hk : m_kd K = m_kd M) (hi : m_iv K = m_iv M) (hr : ∀ b, b ≠ x + 126 → m_rv K b = m_rv M b) (h1 : m_rv K (x + 126) 1 = some (x + 127) ∧ m_rv K (x + 126) 2 = some (x + 128 + zs 0) ∧ m_rv K (x + 126) 3 = some (x + 128 + zs 1) ∧ m_rv K (x + 126) 4 = some (x + 128 + zs 2) ∧ m_rv K (x + 126) 5 = some (x + 131)) (hs : zs 0 < 3 ∧ zs 1 < 3 ∧ zs 2 < 3 ∧ zs 0 ≠ zs 1 ∧ zs 0 ≠ zs 2 ∧ zs 1 ≠ zs 2) : GS N x o ps zs K r := by
  have gt : ∀ {t : Nat} {m : Nat → Int32}, t ≠ x + 126 → GT N (x + 628) M t m → GT N (x + 628) K t m := by
    intro t m ht h
    obtain ⟨h1, h2, lw, h3, h4⟩ := h
    refine ⟨h1, h2.frame fun b _ _ => by rw [hi], lw, ?_, h4⟩
    rcases h3 with ⟨a1, a2⟩ | ⟨a, a1, a2, a3, a4⟩
    · exact Or.inl ⟨by rw [hr t ht]; exact a1, a2⟩
    · exact Or.inr ⟨a, by rw [hr t ht]; exact a1, a2, a3.cong (fun b _ _ => by rw [hk]) (hr a (by omega)) (fun b _ _ _ => by rw [hi]), by rw [hi]; exact a4⟩
  obtain ⟨A, ⟨k1, k2, k3, k4⟩, T, g, ⟨p1, p2, p3⟩, f, ⟨i1, i2⟩, ⟨a1, a2, a3⟩⟩ := G
  have A2 := A
  refine ⟨?_, ⟨by rw [hk]; exact k1, k2, by rw [hz]; exact k3, fun b hb => by rw [hk]; exact k4 b (by rw [← hz]; exact hb)⟩, fun g hg => by rw [hi]; exact T g hg, gt (by omega) g, ⟨by rw [hi]; exact p1, p2, fun k hk => by rw [hi]; exact p3 k hk⟩, by rw [hi]; exact f, ⟨by rw [hi]; exact i1, i2.imp id fun w => ⟨w.1, gt (by omega) w.2⟩⟩, ⟨by rw [hi]; exact a1, a2, fun k hk => ?_⟩⟩
  · unfold XSk at A ⊢
    obtain ⟨b1, b2, ⟨b3, b4, b5, b6⟩, b7, b8, ⟨⟨c1, -⟩, c2, -⟩, b10, b11⟩ := A
    have sh : ∀ {t : Nat}, (t + 41 ≤ x + 126 ∨ x + 126 < t) → Shape M t → Shape K t := fun ht S => S.of (fun b _ _ => by rw [hk]) (fun b j _ _ _ => by rw [hr b (by omega)])
    rw [hk, hr x (by omega), hr (x + 84) (by omega), hr (x + 132) (by omega), hz]
    exact ⟨b1, b2, ⟨sh (by omega) b3, sh (by omega) b4, sh (by omega) b5, fun i hi => sh (by omega) (b6 i hi)⟩, b7, b8, ⟨⟨c1, h1⟩, c2, hs⟩, b10, b11⟩
  · have hp := A2.pl (i := k) (by have := (nb_c a2 (by decide)).2; omega)
    exact gt (by omega) (a3 k hk)
theorem XSk.ky (A : XSk M x ps ys) : (m_kd M (x + 126)).1 = 19 := by rw [A.2.2.2.2.2.1.1.1]
theorem XSk.yi (A : XSk M x ps ys) (j : Nat) : gI M 9 (x + 126) j = some (m_iv M (x + 126) j) := gI_k (ci := 9) A.ky
theorem XSk.yp (A : XSk M x ps ys) (j : Nat) (v : Int32) : pI M 9 (x + 126) j v = some (m_setI M (x + 126) j v) := pI_k (ci := 9) A.ky
theorem XSk.yr (A : XSk M x ps ys) (j v : Nat) : pR M 9 (x + 126) j v = some (m_setR M (x + 126) j (some v)) := pR_k (ci := 9) A.ky
theorem XSk.yc (A : XSk M x ps ys) : ck M 9 (x + 126) = some () := ck_k (ci := 9) A.ky
theorem XSk.y1 (A : XSk M x ps ys) : gR M 9 (x + 126) 1 = some (x + 127) := (gR_k (ci := 9) A.ky).trans A.2.2.2.2.2.1.1.2.1
theorem XSk.y2 (A : XSk M x ps ys) : gR M 9 (x + 126) 2 = some (x + 128 + ys 0) := (gR_k (ci := 9) A.ky).trans A.2.2.2.2.2.1.1.2.2.1
theorem XSk.y3 (A : XSk M x ps ys) : gR M 9 (x + 126) 3 = some (x + 128 + ys 1) := (gR_k (ci := 9) A.ky).trans A.2.2.2.2.2.1.1.2.2.2.1
theorem XSk.y4 (A : XSk M x ps ys) : gR M 9 (x + 126) 4 = some (x + 128 + ys 2) := (gR_k (ci := 9) A.ky).trans A.2.2.2.2.2.1.1.2.2.2.2.1
theorem XSk.y5 (A : XSk M x ps ys) : gR M 9 (x + 126) 5 = some (x + 131) := (gR_k (ci := 9) A.ky).trans A.2.2.2.2.2.1.1.2.2.2.2.2
theorem XSk.yq (A : XSk M x ps ys) : ys 0 < 3 ∧ ys 1 < 3 ∧ ys 2 < 3 ∧ ys 0 ≠ ys 1 ∧ ys 0 ≠ ys 2 ∧ ys 1 ≠ ys 2 := A.2.2.2.2.2.1.2.2
theorem XSk.ykr (A : XSk M x ps ys) : m_kd M (x + 127) = (1, 10) := A.2.2.2.2.2.1.2.1.1
theorem XSk.yko (A : XSk M x ps ys) {j : Nat} (hj : j < 3) : m_kd M (x + 128 + j) = (1, 10) := by
  obtain ⟨-, c2, c3, c4, -⟩ := A.2.2.2.2.2.1.2.1
  have h : j = 0 ∨ j = 1 ∨ j = 2 := by omega
  rcases h with rfl | rfl | rfl
  · exact c2
  · exact c3
  · exact c4
theorem XSk.ykt (A : XSk M x ps ys) : m_kd M (x + 131) = (1, 32) := A.2.2.2.2.2.1.2.1.2.2.2.2
theorem XSk.ya (A : XSk M x ps ys) (hk : k < 10) : ald M (x + 127) (iN k) = some (m_iv M (x + 127) k) := ald_iN A.ykr hk (by decide)
theorem XSk.yas (A : XSk M x ps ys) (hk : k < 10) (v : Int32) : ast M (x + 127) (iN k) v = some (m_setI M (x + 127) k v) := ast_iN A.ykr hk (by decide)
theorem XSk.yo (A : XSk M x ps ys) {j : Nat} (hj : j < 3) (hk : k < 10) : ald M (x + 128 + j) (iN k) = some (m_iv M (x + 128 + j) k) := ald_iN (A.yko hj) hk (by decide)
theorem XSk.yos (A : XSk M x ps ys) {j : Nat} (hj : j < 3) (hk : k < 10) (v : Int32) : ast M (x + 128 + j) (iN k) v = some (m_setI M (x + 128 + j) k v) := ast_iN (A.yko hj) hk (by decide)
theorem XSk.yt (A : XSk M x ps ys) (hk : k < 32) : ald M (x + 131) (iN k) = some (m_iv M (x + 131) k) := ald_iN A.ykt hk (by decide)
theorem XSk.yts (A : XSk M x ps ys) (hk : k < 32) (v : Int32) : ast M (x + 131) (iN k) v = some (m_setI M (x + 131) k v) := ast_iN A.ykt hk (by decide)
/-- the years' people, friends and owns -/
def YC (M : Mem) (x : Nat) (ys : Nat → Nat) (n : Nat) (fr ow : Nat → Int32) : Prop := m_iv M (x + 126) 0 = iN n ∧ ∀ i, i < n → m_iv M (x + 127) i = fr i ∧ m_iv M (x + 128 + ys 0) i = ow i
def YL (M : Mem) (x : Nat) (ys : Nat → Nat) (n : Nat) (pr : Nat → Int32) : Prop := ∀ i, i < n → m_iv M (x + 128 + ys 1) i = pr i
theorem fill_0 (A : XSk M x ps ys) (hN : 100 < N) : ∃ K, f_Arrays_fill N (x + 131) 0 M = some K ∧ Fr (x + 131) 1 (x + 628) M K ∧ ∀ g, g < 32 → m_iv K (x + 131) g = 0 := by
  unfold f_Arrays_fill
  have e : aln M (x + 131) = some (iN 32) := by
    unfold aln
    rw [A.ykt]
    rfl
  rw [e, ob]
  refine lp_inv (F := fun fuel k z => f_Arrays_fill_5 N (x + 131) 0 fuel (iN k) (iN 32) z) (n := 32) (P := fun k z => Fr (x + 131) 1 (x + 628) M z ∧ ∀ g, g < k → m_iv z (x + 131) g = 0) (Q := fun t => ∃ K, t = some K ∧ Fr (x + 131) 1 (x + 628) M K ∧ ∀ g, g < 32 → m_iv K (x + 131) g = 0) (fun fuel z hz => ?_) (fun fuel k z hk hz => ?_) 32 0 M N (by omega) (by omega) ⟨Fr.refl, fun g hg => absurd hg (Nat.not_lt_zero g)⟩
  · exact ⟨z, by rw [f_Arrays_fill_5, if_pos (i_le_rfl _)], hz.1, hz.2⟩
  · have A2 : XSk z x ps ys := A.kr hz.1.1.2.1 hz.1.1.2.2.1 hz.1.1.1
    refine ⟨m_setI z (x + 131) k 0, ?_, hz.1.trans (Fr.setI (by omega) (by omega) (by omega)), fun g hg => ?_⟩
    · rw [f_Arrays_fill_5, if_neg (iN_nle hk (by decide)), A2.yts hk, ob, iN_s]
    · rw [iv_same, up1_at]
      by_cases h : g = k
      · rw [if_pos h]
      · rw [if_neg h]; exact hz.2 g (by omega)
theorem mostAround_cl (A : XSk M x ps ys) (Y : YC M x ys n fr ow) (T : ∀ g, g < 32 → m_iv M (x + 131) g = 0) (hN : 100 < N) (hn : n ≤ 10) (hw : ∀ k, k < n → nx (ow k) 32) (hp : p < n) (hb : ib (fr p) p = true) : ∃ K, f_Years_mostAround N (x + 126) (iN p) M = some (tkM (fr p) ow n (ow p), K) ∧ Fr (x + 131) 1 (x + 628) M K ∧ ∀ g, g < 32 → m_iv K (x + 131) g = 0 := by
  obtain ⟨y0, yy⟩ := Y
  have hy := A.yq
  have av : ∀ {z : Mem}, Fr (x + 131) 1 (x + 628) M z → XSk z x ps ys ∧ m_iv z (x + 126) 0 = iN n ∧ ∀ i, i < n → m_iv z (x + 127) i = fr i ∧ m_iv z (x + 128 + ys 0) i = ow i := fun F => by
    refine ⟨A.kr F.1.2.1 F.1.2.2.1 F.1.1, ?_, ?_⟩
    · rw [F.2.1 _ (by omega) (by omega)]; exact y0
    · rw [F.2.1 (x + 127) (by omega) (by omega), F.2.1 (x + 128 + ys 0) (by omega) (by omega)]; exact yy
  have own : 0 < vtN (fr p) ow n (ow p) := (ctB_pos _ n).mpr ⟨p, hp, by rw [hb]; simp⟩
  obtain ⟨cp, hcp, ecp⟩ := hw p hp
  have e166 : ∀ {z : Mem} {v : Int32}, Fr (x + 131) 1 (x + 628) M z → v = tkM (fr p) ow n (ow p) → ∃ K, f_Years_mostAround_166 N (x + 126) (iN p) v z = some (tkM (fr p) ow n (ow p), K) ∧ Fr (x + 131) 1 (x + 628) M K ∧ ∀ g, g < 32 → m_iv K (x + 131) g = 0 := fun F hv => by
    obtain ⟨A2, -⟩ := av F
    obtain ⟨K, c1, F2, T2⟩ := fill_0 (N := N) A2 hN
    refine ⟨K, ?_, F.trans F2, T2⟩
    unfold f_Years_mostAround_166
    rw [A2.y5, ob, c1, ob, hv]
  have e84 : ∀ {z : Mem} {mo : Nat}, Fr (x + 131) 1 (x + 628) M z → (∀ g, g < 32 → m_iv z (x + 131) g = iN (vtN (fr p) ow n (iN g))) → mo ≤ n → (∀ g, g < 32 → vtN (fr p) ow n (iN g) ≤ mo) → (0 < mo → ∃ g, g < 32 ∧ vtN (fr p) ow n (iN g) = mo) →
      ∃ K, (if m_iv z (x + 131) cp = iN mo then f_Years_mostAround_84 N (x + 126) (iN p) (iN mo) (ow p) 1 z else f_Years_mostAround_84 N (x + 126) (iN p) (iN mo) (ow p) 0 z) = some (tkM (fr p) ow n (ow p), K) ∧ Fr (x + 131) 1 (x + 628) M K ∧ ∀ g, g < 32 → m_iv K (x + 131) g = 0 := by
    intro z mo F hv hmo hmx hex
    obtain ⟨A2, w0, wy⟩ := av F
    have bp := vtN_le (fr p) ow n (iN cp)
    have mpos : 0 < mo := Nat.lt_of_lt_of_le own (by rw [ecp]; exact hmx cp hcp)
    have wit : ∀ g, g < 32 → vtN (fr p) ow n (iN g) = mo → ∃ j, j < n ∧ ow j = iN g := fun g hg he => by
      obtain ⟨j, h1, h2⟩ := (ctB_pos _ n).mp (show 0 < vtN (fr p) ow n (iN g) by omega)
      rw [Bool.and_eq_true, decide_eq_true_eq] at h2
      exact ⟨j, h1, h2.2⟩
    rw [hv cp hcp]
    by_cases hk : vtN (fr p) ow n (iN cp) = mo
    · rw [if_pos (by rw [hk])]
      unfold f_Years_mostAround_84
      obtain ⟨fu, rfl⟩ : ∃ fu, N = fu + 1 := ⟨N - 1, by omega⟩
      rw [f_Years_mostAround_89, A2.yi, ob, w0, if_neg (show ¬ iN n ≤ (0 : Int32) from iN_nle (k := 0) (by omega) (by omega)), if_neg (by decide)]
      refine e166 F (TkP.uniq (fr := fr p) (ow := ow) (n := n) (own := ow p) ⟨cp, hcp, ecp, fun g hg => ?_, fun _ => rfl, fun h => absurd rfl h⟩ (tkM_P _ _ _ (hw p hp)))
      rw [ecp, hk]
      exact hmx g hg
    · rw [if_neg (iN_ne hk (by omega) (by omega))]
      unfold f_Years_mostAround_84
      refine lp_inv (F := fun fuel k w => f_Years_mostAround_89 N (x + 126) (iN p) fuel (iN mo) w 0 (iN k) z) (n := n)
        (P := fun k w => ∃ c, c < 32 ∧ w = iN c ∧ ((w = ow p ∧ vtN (fr p) ow n w < mo ∧ ∀ j, j < k → vtN (fr p) ow n (ow j) ≠ mo) ∨ (vtN (fr p) ow n w = mo ∧ ∀ j d, j < k → d < 32 → ow j = iN d → vtN (fr p) ow n (iN d) = mo → c ≤ d)))
        (Q := fun t => ∃ K, t = some (tkM (fr p) ow n (ow p), K) ∧ Fr (x + 131) 1 (x + 628) M K ∧ ∀ g, g < 32 → m_iv K (x + 131) g = 0) (fun fuel w hz => ?_) (fun fuel k w hk2 hz => ?_) n 0 (ow p) N (by omega) (by omega) ⟨cp, hcp, ecp, Or.inl ⟨rfl, ?_, fun j hj => absurd hj (Nat.not_lt_zero j)⟩⟩
      · rw [f_Years_mostAround_89, A2.yi, ob, w0, if_pos (i_le_rfl _)]
        obtain ⟨c, hc, rfl, h⟩ := hz
        refine e166 F (TkP.uniq (fr := fr p) (ow := ow) (n := n) (own := ow p) ?_ (tkM_P _ _ _ (hw p hp)))
        obtain ⟨g, hg, eg⟩ := hex mpos
        obtain ⟨j, hj, ej⟩ := wit g hg eg
        rcases h with ⟨-, -, h3⟩ | ⟨h1, h2⟩
        · exact absurd (by rw [ej]; exact eg) (h3 j hj)
        · refine ⟨c, hc, rfl, fun g2 hg2 => by rw [h1]; exact hmx g2 hg2, fun he => ?_, fun _ g2 hg2 he => ?_⟩
          · rw [ecp, h1] at he
            exact absurd he hk
          · obtain ⟨j2, hj2, ej2⟩ := wit g2 hg2 (he.trans h1)
            exact h2 j2 g2 hj2 hg2 ej2 (he.trans h1)
      · obtain ⟨c, hc, rfl, h⟩ := hz
        obtain ⟨d, hd, ed⟩ := hw k hk2
        have bc := vtN_le (fr p) ow n (iN c)
        have bd := vtN_le (fr p) ow n (iN d)
        rw [f_Years_mostAround_89, A2.yi, ob, w0, if_neg (iN_nle hk2 (by omega)), if_pos rfl, A2.y5, ob, A2.yt hc, ob, hv c hc]
        have e129 : ∀ y, f_Years_mostAround_129 N (x + 126) (iN p) (f_Years_mostAround_89 N (x + 126) (iN p) fuel) (iN mo) (iN c) 0 (iN k) y z = f_Years_mostAround_89 N (x + 126) (iN p) fuel (iN mo) (if vtN (fr p) ow n (iN d) = mo ∧ y ≠ 0 then iN d else iN c) 0 (iN (k + 1)) z := fun y => by
          unfold f_Years_mostAround_129
          rw [A2.y5, ob, A2.y2, ob, A2.yo hy.1 (by omega), ob, (wy k hk2).2, ed, A2.yt hd, ob, hv d hd, iN_s]
          by_cases h1 : vtN (fr p) ow n (iN d) = mo
          · rw [if_pos (by rw [h1])]
            by_cases h2 : y = 0
            · rw [if_pos h2, if_neg (fun q => q.2 h2)]
            · rw [if_neg h2, if_pos ⟨h1, h2⟩, ob, A2.yo hy.1 (by omega), ob, (wy k hk2).2, ed]
          · rw [if_neg (iN_ne h1 (by omega) (by omega)), if_neg (fun q => h1 q.1)]
        have e124 : f_Years_mostAround_124 N (x + 126) (iN p) (f_Years_mostAround_89 N (x + 126) (iN p) fuel) (iN mo) (iN c) 0 (iN k) z = f_Years_mostAround_89 N (x + 126) (iN p) fuel (iN mo) (if vtN (fr p) ow n (iN d) = mo then iN d else iN c) 0 (iN (k + 1)) z := by
          unfold f_Years_mostAround_124
          rw [e129]
          by_cases h1 : vtN (fr p) ow n (iN d) = mo
          · rw [if_pos ⟨h1, by decide⟩, if_pos h1]
          · rw [if_neg (fun q => h1 q.1), if_neg h1]
        rw [e124, e129]
        rcases h with ⟨h1, h2, h3⟩ | ⟨h1, h2⟩
        · rw [if_pos (iN_ylt h2 (by omega))]
          by_cases h4 : vtN (fr p) ow n (iN d) = mo
          · rw [if_pos h4]
            refine ⟨iN d, rfl, d, hd, rfl, Or.inr ⟨h4, fun j e hj he ej ev => ?_⟩⟩
            by_cases hjk : j = k
            · rw [hjk, ed] at ej
              have := (iN_inj (by omega) (by omega)).mp ej
              omega
            · exact absurd (by rw [ej]; exact ev) (h3 j (by omega))
          · rw [if_neg h4]
            refine ⟨iN c, rfl, c, hc, rfl, Or.inl ⟨h1, h2, fun j hj => ?_⟩⟩
            by_cases hjk : j = k
            · rw [hjk, ed]; exact h4
            · exact h3 j (by omega)
        · rw [if_neg (iN_nlt (by omega) (by omega)), A2.y2, ob, A2.yo hy.1 (by omega), ob, (wy k hk2).2, ed]
          by_cases h5 : c ≤ d
          · rw [if_pos (iN_yle h5 (by omega)), if_neg (fun q => q.2 rfl)]
            refine ⟨iN c, rfl, c, hc, rfl, Or.inr ⟨h1, fun j e hj he ej ev => ?_⟩⟩
            by_cases hjk : j = k
            · rw [hjk, ed] at ej
              have := (iN_inj (by omega) (by omega)).mp ej
              omega
            · exact h2 j e (by omega) he ej ev
          · rw [if_neg (iN_nle (by omega) (by omega))]
            by_cases h4 : vtN (fr p) ow n (iN d) = mo
            · rw [if_pos h4]
              refine ⟨iN d, rfl, d, hd, rfl, Or.inr ⟨h4, fun j e hj he ej ev => ?_⟩⟩
              by_cases hjk : j = k
              · rw [hjk, ed] at ej
                have := (iN_inj (by omega) (by omega)).mp ej
                omega
              · have := h2 j e (by omega) he ej ev
                omega
            · rw [if_neg h4]
              refine ⟨iN c, rfl, c, hc, rfl, Or.inr ⟨h1, fun j e hj he ej ev => ?_⟩⟩
              by_cases hjk : j = k
              · rw [hjk, ed] at ej
                have := (iN_inj (by omega) (by omega)).mp ej
                subst this
                exact absurd ev h4
              · exact h2 j e (by omega) he ej ev
      · rw [ecp]
        have := hmx cp hcp
        omega
  unfold f_Years_mostAround
  refine lp_inv (F := fun fuel k (z : Int32 × Mem) => f_Years_mostAround_4 N (x + 126) (iN p) fuel z.1 (iN k) z.2) (n := n)
    (P := fun k z => Fr (x + 131) 1 (x + 628) M z.2 ∧ (∀ g, g < 32 → m_iv z.2 (x + 131) g = iN (vtN (fr p) ow k (iN g))) ∧ ∃ mo, z.1 = iN mo ∧ mo ≤ k ∧ (∀ g, g < 32 → vtN (fr p) ow k (iN g) ≤ mo) ∧ (0 < mo → ∃ g, g < 32 ∧ vtN (fr p) ow k (iN g) = mo))
    (Q := fun t => ∃ K, t = some (tkM (fr p) ow n (ow p), K) ∧ Fr (x + 131) 1 (x + 628) M K ∧ ∀ g, g < 32 → m_iv K (x + 131) g = 0) (fun fuel z hz => ?_) (fun fuel k z hk hz => ?_) n 0 (0, M) N (by omega) (by omega) ⟨Fr.refl, fun g hg => T g hg, 0, rfl, by omega, fun g hg => Nat.le_refl 0, fun h => absurd h (Nat.lt_irrefl 0)⟩
  · obtain ⟨F, hv, mo, e1, h1, h2, h3⟩ := hz
    obtain ⟨A2, w0, wy⟩ := av F
    show ∃ K, f_Years_mostAround_4 N (x + 126) (iN p) (fuel + 1) z.1 (iN n) z.2 = _ ∧ _
    rw [f_Years_mostAround_4, A2.yi, ob, w0, if_pos (i_le_rfl _), A2.y2, ob, A2.yo hy.1 (by omega), ob, (wy p hp).2, A2.y5, ob, ecp, A2.yt hcp, ob, e1, ← ecp]
    exact e84 F hv h1 h2 h3
  · obtain ⟨F, hv, mo, e1, h1, h2, h3⟩ := hz
    obtain ⟨A2, w0, wy⟩ := av F
    obtain ⟨d, hd, ed⟩ := hw k hk
    have bd := vtN_le (fr p) ow k (iN d)
    have e0 : f_Years_mostAround_4 N (x + 126) (iN p) (fuel + 1) z.1 (iN k) z.2 = if b01 (ib (fr p) k) = 0 then f_Years_mostAround_4 N (x + 126) (iN p) fuel z.1 (iN (k + 1)) z.2 else f_Years_mostAround_4 N (x + 126) (iN p) fuel (if iN mo < iN (vtN (fr p) ow k (iN d) + 1) then iN (vtN (fr p) ow k (iN d) + 1) else iN mo) (iN (k + 1)) (m_setI z.2 (x + 131) d (iN (vtN (fr p) ow k (iN d) + 1))) := by
      have A3 : XSk (m_setI z.2 (x + 131) d (iN (vtN (fr p) ow k (iN d) + 1))) x ps ys := A2.kr rfl rfl rfl
      rw [f_Years_mostAround_4, A2.yi, ob, w0, if_neg (iN_nle hk (by omega)), A2.y1, ob, A2.ya (by omega), ob, (wy p hp).1, f_CT_isIn_eq (by omega), ob, A2.y5, ob, A2.y2, ob, A2.yo hy.1 (by omega), ob, (wy k hk).2, ed, A2.yt hd, ob, hv d hd, A2.yts hd, ob, iN_s, iN_s, A3.y5, ob, A3.y2, ob, A3.yo hy.1 (by omega), ob, iv_ne (by omega), (wy k hk).2, ed, A3.yt hd, ob, iv_same, up1_same, e1, max_eq, ob]
    by_cases hb2 : ib (fr p) k = true
    · have e0 : _ = f_Years_mostAround_4 N (x + 126) (iN p) fuel (if iN mo < iN (vtN (fr p) ow k (iN d) + 1) then iN (vtN (fr p) ow k (iN d) + 1) else iN mo) (iN (k + 1)) (m_setI z.2 (x + 131) d (iN (vtN (fr p) ow k (iN d) + 1))) := e0.trans (by rw [hb2]; exact if_neg (by decide))
      have vs : ∀ g, g < 32 → vtN (fr p) ow (k + 1) (iN g) = if g = d then vtN (fr p) ow k (iN d) + 1 else vtN (fr p) ow k (iN g) := fun g hg => by
        rw [vtN_s, ed]
        by_cases h : g = d
        · rw [if_pos h, h, if_pos ⟨hb2, rfl⟩]
        · rw [if_neg h, if_neg (fun q => h ((iN_inj (by omega) (by omega)).mp q.2).symm), Nat.add_zero]
      refine ⟨(_, _), e0, F.trans (Fr.setI (by omega) (by omega) (by omega)), fun g hg => ?_, ?_⟩
      · show m_iv (m_setI z.2 (x + 131) d (iN (vtN (fr p) ow k (iN d) + 1))) (x + 131) g = _
        rw [iv_same, up1_at, vs g hg]
        by_cases h : g = d
        · rw [if_pos h, if_pos h]
        · rw [if_neg h, if_neg h]; exact hv g hg
      · by_cases hl : mo < vtN (fr p) ow k (iN d) + 1
        · refine ⟨vtN (fr p) ow k (iN d) + 1, if_pos (iN_ylt hl (by omega)), by omega, fun g hg => ?_, fun _ => ⟨d, hd, by rw [vs d hd, if_pos rfl]⟩⟩
          rw [vs g hg]
          by_cases h : g = d
          · rw [if_pos h]; exact Nat.le_refl _
          · rw [if_neg h]
            have := h2 g hg
            omega
        · refine ⟨mo, if_neg (iN_nlt (by omega) (by omega)), by omega, fun g hg => ?_, fun hm => ?_⟩
          · rw [vs g hg]
            by_cases h : g = d
            · rw [if_pos h]; omega
            · rw [if_neg h]; exact h2 g hg
          · obtain ⟨g, hg, eg⟩ := h3 hm
            by_cases h : g = d
            · rw [h] at eg; omega
            · exact ⟨g, hg, by rw [vs g hg, if_neg h]; exact eg⟩
    · have e0 : _ = f_Years_mostAround_4 N (x + 126) (iN p) fuel z.1 (iN (k + 1)) z.2 := e0.trans (by rw [Bool.eq_false_iff.mpr hb2]; exact if_pos rfl)
      have vs : ∀ g, vtN (fr p) ow (k + 1) g = vtN (fr p) ow k g := fun g => by
        rw [vtN_s, if_neg (fun q => hb2 q.1), Nat.add_zero]
      refine ⟨z, e0, F, fun g hg => by rw [vs]; exact hv g hg, mo, e1, by omega, fun g hg => by rw [vs]; exact h2 g hg, fun hm => ?_⟩
      obtain ⟨g, hg, eg⟩ := h3 hm
      exact ⟨g, hg, by rw [vs]; exact eg⟩
end Yc
