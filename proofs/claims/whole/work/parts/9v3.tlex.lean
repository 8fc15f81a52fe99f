section Vl
variable {N en i j k p t w b rd xx tk lo n : Nat} {tx : Nat → Int32} {K L M : Mem} {f v u g hc hm : Int32} {r q : Rho} {m m2 : Nat → Int32}
def TLS (K : Mem) (rd xx t en : Nat) (tx : Nat → Int32) (i tk : Nat) (f : Int32) : Prop := RS_8 K rd xx ∧ CS K rd en tx i tk f ∧ m_rv K rd 6 = some t ∧ Shape K t ∧ m_iv K xx = tx ∧ (t + 41 ≤ rd ∨ rd < t) ∧ (xx < t ∨ t + 41 ≤ xx)
theorem TLS.A (H : TLS K rd xx t en tx i tk f) : RS_8 K rd xx := H.1
theorem TLS.C (H : TLS K rd xx t en tx i tk f) : CS K rd en tx i tk f := H.2.1
theorem TLS.S (H : TLS K rd xx t en tx i tk f) : Shape K t := H.2.2.2.1
theorem TLS.x (H : TLS K rd xx t en tx i tk f) : m_iv K xx = tx := H.2.2.2.2.1
theorem TLS.d (H : TLS K rd xx t en tx i tk f) : t + 41 ≤ rd ∨ rd < t := H.2.2.2.2.2.1
theorem TLS.ie (H : TLS K rd xx t en tx i tk f) : i ≤ en := H.2.1.2.2.2.2.2.1
theorem TLS.te (H : TLS K rd xx t en tx i tk f) : tk ≤ en := H.2.1.2.2.2.2.2.2.2.1
theorem TLS.g6 (H : TLS K rd xx t en tx i tk f) : gR K 8 rd 6 = some t := (gR_k (ci := 8) H.1.1).trans H.2.2.1
theorem TLS.rq (H : TLS K rd xx t en tx i tk f) (g : Rq rd K L) {i2 tk2 : Nat} {f2 : Int32} (C : CS L rd en tx i2 tk2 f2) : TLS L rd xx t en tx i2 tk2 f2 := by
  obtain ⟨a1, a2, a3, a4, a5, a6, a7⟩ := H
  refine ⟨a1.q g, C, by rw [g.1.2.2.1]; exact a3, a4.of (fun b _ _ => by rw [g.1.2.1]) (fun b j _ _ _ => by rw [g.1.2.2.1]), ?_, a6, a7⟩
  rw [g.2 xx (Ne.symm a1.2.2.2)]
  exact a5
theorem TLS.rel (H : TLS K rd xx t en tx i tk f) (g : Rq rd K L) (R : TRel K t m) : TRel L t m := R.frame fun b h1 h2 => g.2 b (by have := H.d; omega)
theorem TLS.set (H : TLS K rd xx t en tx i tk f) {o : Nat} (ho : o < 41) (j : Nat) (v : Int32) : TLS (m_setI K (t + o) j v) rd xx t en tx i tk f := by
  obtain ⟨a1, a2, a3, a4, a5, a6, a7⟩ := H
  refine ⟨a1, a2.of (iv_ne (by omega)), a3, a4, ?_, a6, a7⟩
  rw [iv_ne (by omega)]
  exact a5
theorem TLS.wr (H : TLS K rd xx t en tx i tk f) : f_TxR_isWrong_8 rd K = some (if f = -1 then 0 else 1) := by
  unfold f_TxR_isWrong_8
  rw [H.A.fi, ob, H.C.1]
  by_cases h : f = -1
  · rw [if_pos h, if_pos h]
  · rw [if_neg h, if_neg h]
def FRt (rd t : Nat) (K L : Mem) : Prop := (m_sz L = m_sz K ∧ m_kd L = m_kd K ∧ m_rv L = m_rv K ∧ m_lv L = m_lv K) ∧ ∀ b, b ≠ rd → (b < t ∨ t + 41 ≤ b) → m_iv L b = m_iv K b
theorem FRt.refl (K : Mem) : FRt rd t K K := ⟨⟨rfl, rfl, rfl, rfl⟩, fun _ _ _ => rfl⟩
theorem FRt.trans (h : FRt rd t K L) (g : FRt rd t L M) : FRt rd t K M := ⟨⟨g.1.1.trans h.1.1, g.1.2.1.trans h.1.2.1, g.1.2.2.1.trans h.1.2.2.1, g.1.2.2.2.trans h.1.2.2.2⟩, fun b q1 q2 => (g.2 b q1 q2).trans (h.2 b q1 q2)⟩
theorem Rq.frt (h : Rq rd K L) : FRt rd t K L := ⟨h.1, fun b h1 _ => h.2 b h1⟩
theorem FRt.set (h : FRt rd t K L) {o : Nat} (ho : o < 41) (j : Nat) (v : Int32) : FRt rd t K (m_setI L (t + o) j v) := ⟨h.1, fun b h1 h2 => (iv_ne (by omega)).trans (h.2 b h1 h2)⟩
/-- the same, but for the place, the fault and the town -/
def Ly (r q : Rho) : Prop := (∀ j, j ≠ 1 → q.2 j = r.2 j) ∧ (∀ k, (k ≤ 2 ∨ 900 ≤ k) → q.2 1 k = r.2 1 k) ∧ ∀ j, j ≠ 11 → j ≠ 12 → q.1 j = r.1 j
theorem Lx.ly (h : Lx r q) : Ly r q := ⟨fun j _ => by rw [h.1], fun k _ => by rw [h.1], h.2⟩
theorem Ly.trans {s : Rho} (h : Ly r q) (g : Ly q s) : Ly r s := ⟨fun j hj => (g.1 j hj).trans (h.1 j hj), fun k hk => (g.2.1 k hk).trans (h.2.1 k hk), fun j a b => (g.2.2 j a b).trans (h.2.2 j a b)⟩
theorem Lx.lym (h : Lx r q) (hm : ∀ k, (k ≤ 2 ∨ 900 ≤ k) → m2 k = r.2 1 k) : Ly r (setM q m2) := ⟨fun j hj => (if_neg hj).trans (by rw [h.1]), fun k hk => (congrFun (setM_m q m2) k).trans (hm k hk), h.2⟩
theorem TXm.ly (h : TXm r tx en) (k : Ly r q) : TXm q tx en := by
  refine ⟨(k.2.2 10 (by decide) (by decide)).trans h.1, ?_⟩
  rw [k.2.2 9 (by decide) (by decide), k.1 7 (by decide)]
  exact h.2.imp id fun w => ⟨w.1, fun e he => (k.2.1 _ (by omega)).trans (w.2 e he)⟩
theorem num_b (H : TLS K rd xx t en tx i tk f) (hen : en ≤ 400) (hN : 500 < N) (hlo : lo ≤ 10000) (hh : f = -1 → hc = hm) : ∃ v L i' tk' f', f_TxR_readNumber_8 N rd (iN lo) hc K = some (v, L) ∧ Rq rd K L ∧ TLS L rd xx t en tx i' tk' f' ∧ (f ≠ -1 → f' ≠ -1) ∧ (f' = -1 → tk' = i ∧ ∃ d, v = iN d ∧ lo ≤ d ∧ d ≤ 999 ∧ iN d ≤ hc) ∧ ∀ r, TXm r tx en → MS r tx en i f 6 → ∃ w q, f_R_figures N (iN lo) hm r = some (w, q) ∧ Lx r q ∧ MS q tx en i' f' 6 ∧ (f' = -1 → w = v) := by
  have hi := H.ie
  rcases readNumber_8 (N := N) H.A H.x hen hN H.C lo hlo hc with ⟨hf, hg, L, l1, l2, l3⟩ | ⟨hg, L, l1, l2, l3⟩
  · subst hf
    obtain ⟨g1, g2, g3, g4⟩ := id hg
    have hb := dg_b (tx := tx) hi
    have h99 := (dv_le (tx := tx) hb.1 (by omega) (fun k h1 h2 => dg_all h1 h2)).2 g2
    refine ⟨_, L, _, _, _, l1, l2, H.rq l2 l3, fun h => absurd rfl h, fun _ => ⟨rfl, _, rfl, g3, h99, g4⟩, fun r hT ms => ?_⟩
    rw [hh rfl] at hg
    obtain ⟨q, o1, o2, o3, o4⟩ := fig_y hT hen hN (ms.1 rfl) hlo hg
    exact ⟨_, q, o1, o2, MS.l (ML.at hb.2 o3 o4), fun _ => rfl⟩
  · refine ⟨_, L, _, _, _, l1, l2, H.rq l2 l3, fun h => by rw [if_neg h]; exact h, fun h => ?_, fun r hT ms => ?_⟩
    · exfalso
      by_cases hf : f = -1
      · rw [if_pos hf] at h
        exact iN_m1 (by omega) h
      · rw [if_neg hf] at h
        exact hf h
    · by_cases hf : f = -1
      · subst hf
        rw [hh rfl] at hg
        obtain ⟨v, q, o1, o2, o3⟩ := fig_n hT hen hN (ms.1 rfl) hlo (fun y => hg ⟨rfl, y⟩)
        rw [if_pos rfl]
        exact ⟨v, q, o1, o2, MS.d hi hen o3, fun h => absurd h (iN_m1 (by omega))⟩
      · rw [if_neg hf]
        have := ms.2 hf
        exact ⟨0, r, fig_d (by rw [this.1]; exact hf) _ _, Lx.refl r, ms, fun h => absurd h hf⟩
theorem word_b (H : TLS K rd xx t en tx i tk f) (hen : en ≤ 400) (hN : 500 < N) {wc wm : Nat} (hw : wdB wc = true) (hw2 : wdB wm = true) (he : s_byt wm = s_byt wc) : ∃ L i' tk' f', f_TxR_readWord_8 N rd wc K = some L ∧ Rq rd K L ∧ TLS L rd xx t en tx i' tk' f' ∧ (f ≠ -1 → f' ≠ -1) ∧ ∀ r, TXm r tx en → MS r tx en i f 6 → ∃ q, f_R_must N wm r = some q ∧ Lx r q ∧ MS q tx en i' f' 6 := by
  have hi := H.ie
  obtain ⟨L, l1, l2, l3⟩ := readWord_8 (N := N) H.A H.x hen hN H.C hw
  rcases l3 with ⟨hf, hg, l3⟩ | ⟨hg, l3⟩
  · subst hf
    refine ⟨L, _, _, _, l1, l2, H.rq l2 l3, fun h => absurd rfl h, fun r hT ms => ?_⟩
    obtain ⟨q, o1, o2, o3⟩ := must_y (N := N) hT hen hN (ms.1 rfl) hw2 (by rw [he]; exact hg)
    exact ⟨q, o1, o2, MS.l o3⟩
  · refine ⟨L, _, _, _, l1, l2, H.rq l2 l3, fun h => by rw [if_neg h]; exact h, fun r hT ms => ?_⟩
    by_cases hf : f = -1
    · subst hf
      obtain ⟨q, o1, o2, o3⟩ := must_n (N := N) (w := wm) hT hen hN (ms.1 rfl) hw2 (fun y => hg ⟨rfl, by rw [← he]; exact y⟩)
      rw [if_pos rfl]
      exact ⟨q, o1, o2, MS.d hi hen o3⟩
    · rw [if_neg hf]
      have := ms.2 hf
      exact ⟨r, must_d (by rw [this.1]; exact hf), Lx.refl r, ms⟩
theorem greet_b (H : TLS K rd xx t en tx i tk f) (hen : en ≤ 400) (hN : 500 < N) : ∃ v L i' tk' f', f_TxR_readGreeting_8 N rd K = some (v, L) ∧ Rq rd K L ∧ TLS L rd xx t en tx i' tk' f' ∧ (f ≠ -1 → f' ≠ -1) ∧ (f' = -1 → nx v 32) ∧ ∀ r, TXm r tx en → MS r tx en i f 6 → ∃ w q, f_R_greeting N r = some (w, q) ∧ Lx r q ∧ MS q tx en i' f' 6 ∧ (f' = -1 → w = v) := by
  by_cases hf : f = -1
  · subst hf
    obtain ⟨g, L1, i1, t1, f1, c1, q1, C1, hi1, d1, m1⟩ := greet_8 (N := N) H.A H.x hen hN H.C
    exact ⟨g, L1, i1, t1, f1, c1, q1, H.rq q1 C1, fun h => absurd rfl h, fun h => (d1 h).2, fun r hT ms => m1 r hT (ms.1 rfl)⟩
  · obtain ⟨L, l1, l2, l3⟩ := greetD_8 (N := N) H.A H.x hen hN H.C hf
    refine ⟨-1, L, _, _, _, l1, l2, H.rq l2 l3, id, fun h => absurd h hf, fun r hT ms => ⟨0, r, ?_, Lx.refl r, ms, fun h => absurd h hf⟩⟩
    unfold f_R_greeting
    rw [if_neg]
    rw [(ms.2 hf).1]
    exact hf
/-- a line's rest, on both sides -/
def LNS (rd xx t en : Nat) (tx : Nat → Int32) (K : Mem) (i : Nat) (f : Int32) (m : Nat → Int32) (cls : Option Mem) (md : Rho → Option Rho) : Prop := ∃ L i' tk' f' m', cls = some L ∧ TLS L rd xx t en tx i' tk' f' ∧ FRt rd t K L ∧ (f' = -1 → Inv m' ∧ TRel L t m') ∧ ∀ r, TXm r tx en → MS r tx en i f 6 → r.2 1 = m → ∃ q, md r = some q ∧ Ly r q ∧ MS q tx en i' f' 6 ∧ (f' = -1 → q.2 1 = m')
theorem le_pred {d n : Nat} (hd : d ≤ 999) (hn : n ≤ 1000) (h : iN d ≤ iN n - 1) : d < n := by
  by_cases h0 : n = 0
  · subst h0
    exfalso
    have : ¬ iN d ≤ (-1 : Int32) := by
      intro h
      have h1 : (-1 : Int32) < iN 0 := by decide
      have h2 : iN 0 ≤ iN d := iN_yle (Nat.zero_le _) (by omega)
      exact absurd (Int32.le_trans h2 h) (Int32.not_le.mpr h1)
    exact this h
  · rw [show iN n - 1 = iN (n - 1) from iN_sub (b := 1) (by omega)] at h
    have := (iN_le (a := d) (b := n - 1) (by omega) (by omega)).mp h
    omega
theorem le_nb {d : Nat} {b : Nat} (hd : d ≤ 999) (hb : b ≤ 1000) (h : iN d ≤ iN b) : nb (iN d) b := ⟨d, (iN_le (by omega) (by omega)).mp h, rfl⟩
theorem MS.set (h : MS q tx en i f 6) (m2 : Nat → Int32) : MS (setM q m2) tx en i f 6 := h
theorem habit_ln (H : TLS K rd xx t en tx i tk f) (hen : en ≤ 400) (hN : 500 < N) (I : Inv m) (R : TRel K t m) (h4 : f = -1 → cn m 4 < 24) (a0 : Int32) : LNS rd xx t en tx K i f m (f_TR_readHabit_19 N rd K) (f_R_habitLine_16 N a0) := by
  obtain ⟨v1, L1, i1, t1, f1, c1, q1, H1, d1, e1, m1⟩ := num_b (lo := 0) (hc := m_iv K (t + 1) 1 - 1) (hm := m 3 - 1) H hen hN (by decide) fun _ => by rw [R.v3]
  obtain ⟨v2, L2, i2, t2, f2, c2, q2, H2, d2, e2, m2⟩ := greet_b (N := N) H1 hen hN
  obtain ⟨L3, i3, t3, f3, c3, q3, H3, d3, m3⟩ := word_b (N := N) H2 hen hN (wc := 20) (wm := 62) (by decide) (by decide) rfl
  obtain ⟨v4, L4, i4, t4, f4, c4, q4, H4, d4, e4, m4⟩ := num_b (N := N) (lo := 1) (hc := 9) (hm := 9) H3 hen hN (by decide) fun _ => rfl
  have qq := ((q1.trans q2).trans q3).trans q4
  have R4 := H.rel qq R
  have cls : f_TR_readHabit_19 N rd K = if f4 = -1 then (f_Lands_addHabit (t + 1) v1 v2 v4 L4).bind fun z15 => some z15 else some L4 := by
    have c1 : f_TxR_readNumber_8 N rd 0 (m_iv K (t + 1) 1 - 1) K = some (v1, L1) := c1
    have c4 : f_TxR_readNumber_8 N rd 1 9 L3 = some (v4, L4) := c4
    unfold f_TR_readHabit_19
    rw [H.g6, ob, H.S.g_lands, ob, H.S.i1, ob, H.A.fc, ob, c1, ob, H1.A.fc, ob, c2, ob, H2.A.fc, ob, c3, ob, H3.A.fc, ob, c4, ob, H4.A.fc, ob, H4.wr, ob]
    by_cases h : f4 = -1
    · rw [if_pos h, if_pos h, if_pos rfl, H4.g6, ob, H4.S.g_lands, ob, H4.S.c1, ob]
    · rw [if_neg h, if_neg h, if_neg i1n]
  have mdl : ∀ r, TXm r tx en → MS r tx en i f 6 → r.2 1 = m → ∃ w1 w2 w4 q, f_R_habitLine_16 N a0 r = (if (q.1 12) = (-1) then ((rld q 1 4).bind fun v8 => (rst q 1 (20 + (3 * v8)) w1).bind fun r9 => (rst r9 1 ((20 + (3 * v8)) + 1) w2).bind fun r10 => (rst r10 1 ((20 + (3 * v8)) + 2) w4).bind fun r11 => (rld r11 1 4).bind fun v12 => (rst r11 1 4 (v12 + 1)).bind fun r13 => some r13) else (some q)) ∧ Lx r q ∧ MS q tx en i4 f4 6 ∧ (f1 = -1 → w1 = v1) ∧ (f2 = -1 → w2 = v2) ∧ (f4 = -1 → w4 = v4) := fun r hT ms hr => by
    obtain ⟨w1, r1, o1, o2, o3, o4⟩ := m1 r hT ms
    obtain ⟨w2, r2, p1, p2, p3, p4⟩ := m2 r1 (hT.lx o2) o3
    have x2 := o2.trans p2
    obtain ⟨r3, s1, s2, s3⟩ := m3 r2 (hT.lx x2) p3
    have x3 := x2.trans s2
    obtain ⟨w4, r4, u1, u2, u3, u4⟩ := m4 r3 (hT.lx x3) s3
    refine ⟨w1, w2, w4, r4, ?_, x3.trans u2, u3, o4, p4, u4⟩
    have o1 : f_R_figures N 0 (m 3 - 1) r = some (w1, r1) := o1
    have u1 : f_R_figures N 1 9 r3 = some (w4, r4) := u1
    unfold f_R_habitLine_16
    rw [rlm3, ob, hr, o1, ob, p1, ob, s1, ob, u1, ob]
  by_cases hf : f4 = -1
  · have hf3 : f3 = -1 := Classical.byContradiction fun h => d4 h hf
    have hf2 : f2 = -1 := Classical.byContradiction fun h => d3 h hf3
    have hf1 : f1 = -1 := Classical.byContradiction fun h => d2 h hf2
    have hf0 : f = -1 := Classical.byContradiction fun h => d1 h hf1
    obtain ⟨-, a, rfl, a1, a2, a3⟩ := e1 hf1
    obtain ⟨-, c, rfl, b1, b2, b3⟩ := e4 hf
    have hn := I.n4
    have hc := h4 hf0
    generalize cn m 4 = n at *
    rw [R.v3, I.n3] at a3
    have na : nx (iN a) (cn m 3) := ⟨a, le_pred a2 (by have := I.b3; omega) a3, rfl⟩
    have nc : nb (iN c) 9 := le_nb (b := 9) b2 (by decide) b3
    obtain ⟨I2, R2⟩ := hab_T (n := n) R4 I hn hc na (e2 hf2) nc (iN_ne (b := 0) (by omega) (by omega) (by decide))
    refine ⟨_, i4, t4, f4, _, by rw [cls, if_pos hf, addHabit_eq (n := n) H4.S (by rw [R4.v4, hn]) hc, ob], ?_, ?_, fun _ => ⟨I2, R2⟩, fun r hT ms hr => ?_⟩
    · unfold hbK
      exact (((H4.set (o := 3) (by decide) _ _).set (o := 4) (by decide) _ _).set (o := 5) (by decide) _ _).set (o := 1) (by decide) _ _
    · unfold hbK
      exact (((qq.frt.set (o := 3) (by decide) _ _).set (o := 4) (by decide) _ _).set (o := 5) (by decide) _ _).set (o := 1) (by decide) _ _
    · obtain ⟨w1, w2, w4, q, p1, p2, p3, p4, p5, p6⟩ := mdl r hT ms hr
      have hq : q.2 1 = m := by rw [p2.1, hr]
      refine ⟨setM q (hbM m n (iN a) v2 (iN c)), ?_, p2.lym fun k hk => ?_, p3.set _, fun _ => setM_m _ _⟩
      · rw [p1, if_pos (p3.1 hf).1, p4 hf1, p5 hf2, p6 hf, rlm4, ob, hq, hn, ix20, rw1 (by omega), ob, iN_s, rw1 (by omega), ob, setM_setM, setM_m, show iN (20 + 3 * n) + 2 = iN (20 + 3 * n + 2) from iN_add _ 2, rw1 (by omega), ob, setM_setM, setM_m, rlm4, ob, setM_m, up1_ne (by omega), up1_ne (by omega), up1_ne (by omega), hq, hn, iN_s, wrm4, ob, setM_setM, setM_m]
        rfl
      · rw [hr]
        exact hbM_o hc (by omega) (by omega)
  · refine ⟨L4, i4, t4, f4, m, by rw [cls, if_neg hf], H4, qq.frt, fun h => absurd h hf, fun r hT ms hr => ?_⟩
    obtain ⟨w1, w2, w4, q, p1, p2, p3, -⟩ := mdl r hT ms hr
    refine ⟨q, ?_, p2.ly, p3, fun h => absurd h hf⟩
    rw [p1, if_neg (by rw [(p3.2 hf).1]; exact hf)]
end Vl
